/-- CountedObjectsModel.thrown()I: a step from head to head -/
def sp_M_thrown (post : Int32 → GS → Prop) (V : Nat → GS → List Int32 → Prop) (h : Nat) (S : GS) (xs : List Int32) : Prop := match h, xs with
  | 0, [] => post (S 100 0) S
  | _, _ => False
def wp_M_thrown (xs : List Int32) (S : GS) (post : Int32 → GS → Prop) : Prop := ∀ V : Nat → GS → List Int32 → Prop, (∀ h S xs, sp_M_thrown post V h S xs → V h S xs) → V 0 S xs
def vh_M_thrown (o : Nat → Nat) (G : GS → Nat → List (Nat × Value) → List Value → Prop) (h : Nat) (S : GS) (xs : List Int32) : Prop := match h, xs with
  | 0, [] => G S 0 [(0, .ref (o 0))] []
  | _, _ => True
set_option maxHeartbeats 4000000 in
set_option maxRecDepth 100000 in
theorem wk_M_thrown_0 {l : Launch} {dC : Nat → ClassId} {dI : Nat → Nat → Nat} {cI cZ : ClassId} {o : Nat → Nat}  {p : Program} {e : Env} {s : State} {m : MethodId} {args : Array Value} {below : List Frame} {meth : Method} {c : Code} {A : Nat → Prop} {post : Int32 → GS → Prop} (C : GC p s m args c cM_thrown 1 RM wsA (dC, dI) gx_cl [(cI, .int), (cZ, .boolean)] A) (hr : meth.sig.returnType = (some .int)) (hlocks : meth.locks = false) (S : GS) (hs : sp_M_thrown post (vh_M_thrown o (GV p l e ({ frames := 0, cells := 0, slots := 0, locals := 0 }) s m args below meth c (MQ below (va_Qi post (GB (mw cI cZ o) (dC, dI) gx_cl [(cI, .int), (cZ, .boolean)] A) A) args s 0 0 A) 1 (dC, dI) gx_cl A (mw cI cZ o))) 0 S []) : GV p l e ({ frames := 0, cells := 0, slots := 0, locals := 0 }) s m args below meth c (MQ below (va_Qi post (GB (mw cI cZ o) (dC, dI) gx_cl [(cI, .int), (cZ, .boolean)] A) A) args s 0 0 A) 1 (dC, dI) gx_cl A (mw cI cZ o) S 0 [(0, .ref (o 0))] [] := by
  refine gx_aload_n C dM_thrown_0 0 rfl rfl ?_
  refine gx_get C mo_this hi_M 0 (by decide) fl_M_58 rfl dM_thrown_1 ?_
  exact gx_iret C hr hlocks dM_thrown_4 hs
set_option maxHeartbeats 4000000 in
set_option maxRecDepth 100000 in
theorem mt_M_thrown (l : Launch) (dC : Nat → ClassId) (dI : Nat → Nat → Nat) (cI cZ : ClassId) (o : Nat → Nat) (S : GS) (post : Int32 → GS → Prop) (h : wp_M_thrown [] S post) : MetI l yM_thrown (Cond.code yM_thrown cM_thrown 1 (some .int) :: wsA) ({ frames := 0, cells := 0, slots := 0, locals := 0 }) (dC, dI) gx_cl [(cI, .int), (cZ, .boolean)] (mw cI cZ o) [.ref (o 0)] S post := by
  refine gx_metI (by decide) wsA_good (Nat.le_of_ble_eq_true rfl) ?_
  intro p e s m args below meth c A C hr hlocks
  refine h (vh_M_thrown o (GV p l e ({ frames := 0, cells := 0, slots := 0, locals := 0 }) s m args below meth c (MQ below (va_Qi post (GB (mw cI cZ o) (dC, dI) gx_cl [(cI, .int), (cZ, .boolean)] A) A) args s 0 0 A) 1 (dC, dI) gx_cl A (mw cI cZ o))) (fun h S xs hs => ?_)
  unfold sp_M_thrown at hs
  split at hs
  · exact wk_M_thrown_0 C hr hlocks _ hs
  · exact hs.elim
/-- CountedObjectsModel.leads(I)Z: a step from head to head -/
def sp_M_leads (post : Int32 → GS → Prop) (V : Nat → GS → List Int32 → Prop) (h : Nat) (S : GS) (xs : List Int32) : Prop := match h, xs with
  | 0, [v0] => ((v0 = 0 → post 0 S) ∧ (¬ v0 = 0 → ((¬ (v0 &&& 1) = 0 → post 0 S) ∧ ((v0 &&& 1) = 0 → post 1 S))))
  | _, _ => False
def wp_M_leads (xs : List Int32) (S : GS) (post : Int32 → GS → Prop) : Prop := ∀ V : Nat → GS → List Int32 → Prop, (∀ h S xs, sp_M_leads post V h S xs → V h S xs) → V 0 S xs
def vh_M_leads (o : Nat → Nat) (G : GS → Nat → List (Nat × Value) → List Value → Prop) (h : Nat) (S : GS) (xs : List Int32) : Prop := match h, xs with
  | 0, [v0] => G S 0 [(0, .int v0)] []
  | _, _ => True
set_option maxHeartbeats 4000000 in
set_option maxRecDepth 100000 in
theorem wk_M_leads_0 {l : Launch} {dC : Nat → ClassId} {dI : Nat → Nat → Nat} {cI cZ : ClassId} {o : Nat → Nat}  {p : Program} {e : Env} {s : State} {m : MethodId} {args : Array Value} {below : List Frame} {meth : Method} {c : Code} {A : Nat → Prop} {post : Int32 → GS → Prop} (C : GC p s m args c cM_leads 1 RM wsA (dC, dI) gx_cl [(cI, .int), (cZ, .boolean)] A) (hr : meth.sig.returnType = (some .boolean)) (hlocks : meth.locks = false) (S : GS) (v0 : Int32) (hs : sp_M_leads post (vh_M_leads o (GV p l e ({ frames := 0, cells := 0, slots := 0, locals := 0 }) s m args below meth c (MQ below (va_Qi post (GB (mw cI cZ o) (dC, dI) gx_cl [(cI, .int), (cZ, .boolean)] A) A) args s 0 0 A) 1 (dC, dI) gx_cl A (mw cI cZ o))) 0 S [v0]) : GV p l e ({ frames := 0, cells := 0, slots := 0, locals := 0 }) s m args below meth c (MQ below (va_Qi post (GB (mw cI cZ o) (dC, dI) gx_cl [(cI, .int), (cZ, .boolean)] A) A) args s 0 0 A) 1 (dC, dI) gx_cl A (mw cI cZ o) S 0 [(0, .int v0)] [] := by
  refine gx_iload_n C dM_leads_0 0 rfl rfl ?_
  obtain ⟨ht, hf⟩ := hs
  refine gx_if_eq C dM_leads_1 14 rfl (fun hc => ?_) (fun hc => ?_)
  · have hs := ht hc
    refine gx_iconst (v := 0) C dM_leads_14 (by decide) ?_
    exact gx_zret C hr hlocks dM_leads_15 hs rfl
  · have hs := hf hc
    refine gx_iload_n C dM_leads_4 0 rfl rfl ?_
    refine gx_iconst (v := 1) C dM_leads_5 (by decide) ?_
    refine gx_iand C dM_leads_6 ?_
    obtain ⟨ht, hf⟩ := hs
    refine gx_if_ne C dM_leads_7 14 rfl (fun hc => ?_) (fun hc => ?_)
    · have hs := ht hc
      refine gx_iconst (v := 0) C dM_leads_14 (by decide) ?_
      exact gx_zret C hr hlocks dM_leads_15 hs rfl
    · have hs := hf hc
      refine gx_iconst (v := 1) C dM_leads_10 (by decide) ?_
      refine gx_goto C dM_leads_11 15 rfl ?_
      exact gx_zret C hr hlocks dM_leads_15 hs rfl
set_option maxHeartbeats 4000000 in
set_option maxRecDepth 100000 in
theorem mt_M_leads (l : Launch) (dC : Nat → ClassId) (dI : Nat → Nat → Nat) (cI cZ : ClassId) (o : Nat → Nat) (v0 : Int32) (S : GS) (post : Int32 → GS → Prop) (h : wp_M_leads [v0] S post) : MetI l yM_leads (Cond.code yM_leads cM_leads 1 (some .boolean) :: wsA) ({ frames := 0, cells := 0, slots := 0, locals := 0 }) (dC, dI) gx_cl [(cI, .int), (cZ, .boolean)] (mw cI cZ o) [.int v0] S post := by
  refine gx_metI (by decide) wsA_good (Nat.le_of_ble_eq_true rfl) ?_
  intro p e s m args below meth c A C hr hlocks
  refine h (vh_M_leads o (GV p l e ({ frames := 0, cells := 0, slots := 0, locals := 0 }) s m args below meth c (MQ below (va_Qi post (GB (mw cI cZ o) (dC, dI) gx_cl [(cI, .int), (cZ, .boolean)] A) A) args s 0 0 A) 1 (dC, dI) gx_cl A (mw cI cZ o))) (fun h S xs hs => ?_)
  unfold sp_M_leads at hs
  split at hs
  · exact wk_M_leads_0 C hr hlocks _ _ hs
  · exact hs.elim
/-- CountedObjectsModel.isObject(I)Z: a step from head to head -/
def sp_M_isObject (post : Int32 → GS → Prop) (V : Nat → GS → List Int32 → Prop) (h : Nat) (S : GS) (xs : List Int32) : Prop := match h, xs with
  | 0, [v1] => ((v1 ≤ 0 → post 0 S) ∧ (¬ v1 ≤ 0 → (((2 * (S 100 2)) < v1 → post 0 S) ∧ (¬ (2 * (S 100 2)) < v1 → wp_M_leads  [v1] S (fun r2 S1 => ((r2 = 0 → post 0 S1) ∧ (¬ r2 = 0 → (vp_in (v1 / 2) 41 ∧ (((S1 1 (v1 / 2).toNatClampNeg) = 0 → post 0 S1) ∧ (¬ (S1 1 (v1 / 2).toNatClampNeg) = 0 → post 1 S1))))))))))
  | _, _ => False
def wp_M_isObject (xs : List Int32) (S : GS) (post : Int32 → GS → Prop) : Prop := ∀ V : Nat → GS → List Int32 → Prop, (∀ h S xs, sp_M_isObject post V h S xs → V h S xs) → V 0 S xs
def vh_M_isObject (o : Nat → Nat) (G : GS → Nat → List (Nat × Value) → List Value → Prop) (h : Nat) (S : GS) (xs : List Int32) : Prop := match h, xs with
  | 0, [v1] => G S 0 [(0, .ref (o 0)), (1, .int v1)] []
  | _, _ => True
set_option maxHeartbeats 4000000 in
set_option maxRecDepth 100000 in
theorem wk_M_isObject_0 {l : Launch} {dC : Nat → ClassId} {dI : Nat → Nat → Nat} {cI cZ : ClassId} {o : Nat → Nat}  {p : Program} {e : Env} {s : State} {m : MethodId} {args : Array Value} {below : List Frame} {meth : Method} {c : Code} {A : Nat → Prop} {post : Int32 → GS → Prop} (C : GC p s m args c cM_isObject 2 RM wsA (dC, dI) gx_cl [(cI, .int), (cZ, .boolean)] A) (hr : meth.sig.returnType = (some .boolean)) (hlocks : meth.locks = false) (S : GS) (v1 : Int32) (hs : sp_M_isObject post (vh_M_isObject o (GV p l e ({ frames := 1, cells := 0, slots := 0, locals := 20 }) s m args below meth c (MQ below (va_Qi post (GB (mw cI cZ o) (dC, dI) gx_cl [(cI, .int), (cZ, .boolean)] A) A) args s 0 0 A) 2 (dC, dI) gx_cl A (mw cI cZ o))) 0 S [v1]) : GV p l e ({ frames := 1, cells := 0, slots := 0, locals := 20 }) s m args below meth c (MQ below (va_Qi post (GB (mw cI cZ o) (dC, dI) gx_cl [(cI, .int), (cZ, .boolean)] A) A) args s 0 0 A) 2 (dC, dI) gx_cl A (mw cI cZ o) S 0 [(0, .ref (o 0)), (1, .int v1)] [] := by
  refine gx_iload_n C dM_isObject_0 1 rfl rfl ?_
  obtain ⟨ht, hf⟩ := hs
  refine gx_if_le C dM_isObject_1 36 rfl (fun hc => ?_) (fun hc => ?_)
  · have hs := ht hc
    refine gx_iconst (v := 0) C dM_isObject_36 (by decide) ?_
    exact gx_zret C hr hlocks dM_isObject_37 hs rfl
  · have hs := hf hc
    refine gx_iload_n C dM_isObject_4 1 rfl rfl ?_
    refine gx_iconst (v := 2) C dM_isObject_5 (by decide) ?_
    refine gx_aload_n C dM_isObject_6 0 rfl rfl ?_
    refine gx_get C mo_this hi_M 2 (by decide) fl_M_51 rfl dM_isObject_7 ?_
    refine gx_imul C dM_isObject_10 ?_
    obtain ⟨ht, hf⟩ := hs
    refine gx_icmp_gt C dM_isObject_11 36 rfl (fun hc => ?_) (fun hc => ?_)
    · have hs := ht hc
      refine gx_iconst (v := 0) C dM_isObject_36 (by decide) ?_
      exact gx_zret C hr hlocks dM_isObject_37 hs rfl
    · have hs := hf hc
      refine gx_iload_n C dM_isObject_14 1 rfl rfl ?_
      refine gx_calls (As := [.int v1]) (rest := []) C (mt_M_leads l dC dI cI cZ o  _ _ _ hs) (gx_cwS C 1 ln_M_61 sm_M_leads in_CountedObjectsModel cd_M_leads rfl rfl (by decide +kernel) ⟨Nat.le_of_ble_eq_true rfl, Nat.le_of_ble_eq_true rfl⟩) rfl (Nat.le_of_ble_eq_true rfl) dM_isObject_15 (fun S1 => mw_ad _ S1) rfl (fun r2 S1 hs => ?_)
      obtain ⟨ht, hf⟩ := hs
      refine gx_if_eq C dM_isObject_18 36 rfl (fun hc => ?_) (fun hc => ?_)
      · have hs := ht hc
        refine gx_iconst (v := 0) C dM_isObject_36 (by decide) ?_
        exact gx_zret C hr hlocks dM_isObject_37 hs rfl
      · have hs := hf hc
        refine gx_aload_n C dM_isObject_21 0 rfl rfl ?_
        refine gx_get C mo_this hi_M 4 (by decide) fl_M_13 rfl dM_isObject_22 ?_
        refine gx_iload_n C dM_isObject_25 1 rfl rfl ?_
        refine gx_iconst (v := 2) C dM_isObject_26 (by decide) ?_
        refine gx_idiv C dM_isObject_27 (by decide) ?_
        obtain ⟨hin, hs⟩ := hs
        refine gx_zald C ma_lives hin dM_isObject_28 ?_
        obtain ⟨ht, hf⟩ := hs
        refine gx_if_eq C dM_isObject_29 36 rfl (fun hc => ?_) (fun hc => ?_)
        · have hs := ht hc
          refine gx_iconst (v := 0) C dM_isObject_36 (by decide) ?_
          exact gx_zret C hr hlocks dM_isObject_37 hs rfl
        · have hs := hf hc
          refine gx_iconst (v := 1) C dM_isObject_32 (by decide) ?_
          refine gx_goto C dM_isObject_33 37 rfl ?_
          exact gx_zret C hr hlocks dM_isObject_37 hs rfl
set_option maxHeartbeats 4000000 in
set_option maxRecDepth 100000 in
theorem mt_M_isObject (l : Launch) (dC : Nat → ClassId) (dI : Nat → Nat → Nat) (cI cZ : ClassId) (o : Nat → Nat) (v1 : Int32) (S : GS) (post : Int32 → GS → Prop) (h : wp_M_isObject [v1] S post) : MetI l yM_isObject (Cond.code yM_isObject cM_isObject 2 (some .boolean) :: wsA) ({ frames := 1, cells := 0, slots := 0, locals := 20 }) (dC, dI) gx_cl [(cI, .int), (cZ, .boolean)] (mw cI cZ o) [.ref (o 0), .int v1] S post := by
  refine gx_metI (by decide) wsA_good (Nat.le_of_ble_eq_true rfl) ?_
  intro p e s m args below meth c A C hr hlocks
  refine h (vh_M_isObject o (GV p l e ({ frames := 1, cells := 0, slots := 0, locals := 20 }) s m args below meth c (MQ below (va_Qi post (GB (mw cI cZ o) (dC, dI) gx_cl [(cI, .int), (cZ, .boolean)] A) A) args s 0 0 A) 2 (dC, dI) gx_cl A (mw cI cZ o))) (fun h S xs hs => ?_)
  unfold sp_M_isObject at hs
  split at hs
  · exact wk_M_isObject_0 C hr hlocks _ _ hs
  · exact hs.elim
/-- CountedObjectsModel.isValue(I)Z: a step from head to head -/
def sp_M_isValue (post : Int32 → GS → Prop) (V : Nat → GS → List Int32 → Prop) (h : Nat) (S : GS) (xs : List Int32) : Prop := match h, xs with
  | 0, [v1] => wp_M_leads  [v1] S (fun r2 S1 => ((r2 = 0 → post 1 S1) ∧ (¬ r2 = 0 → wp_M_isObject  [v1] S1 (fun r4 S3 => ((r4 = 0 → post 0 S3) ∧ (¬ r4 = 0 → post 1 S3))))))
  | _, _ => False
def wp_M_isValue (xs : List Int32) (S : GS) (post : Int32 → GS → Prop) : Prop := ∀ V : Nat → GS → List Int32 → Prop, (∀ h S xs, sp_M_isValue post V h S xs → V h S xs) → V 0 S xs
def vh_M_isValue (o : Nat → Nat) (G : GS → Nat → List (Nat × Value) → List Value → Prop) (h : Nat) (S : GS) (xs : List Int32) : Prop := match h, xs with
  | 0, [v1] => G S 0 [(0, .ref (o 0)), (1, .int v1)] []
  | _, _ => True
set_option maxHeartbeats 4000000 in
set_option maxRecDepth 100000 in
theorem wk_M_isValue_0 {l : Launch} {dC : Nat → ClassId} {dI : Nat → Nat → Nat} {cI cZ : ClassId} {o : Nat → Nat}  {p : Program} {e : Env} {s : State} {m : MethodId} {args : Array Value} {below : List Frame} {meth : Method} {c : Code} {A : Nat → Prop} {post : Int32 → GS → Prop} (C : GC p s m args c cM_isValue 2 RM wsA (dC, dI) gx_cl [(cI, .int), (cZ, .boolean)] A) (hr : meth.sig.returnType = (some .boolean)) (hlocks : meth.locks = false) (S : GS) (v1 : Int32) (hs : sp_M_isValue post (vh_M_isValue o (GV p l e ({ frames := 2, cells := 0, slots := 0, locals := 41 }) s m args below meth c (MQ below (va_Qi post (GB (mw cI cZ o) (dC, dI) gx_cl [(cI, .int), (cZ, .boolean)] A) A) args s 0 0 A) 2 (dC, dI) gx_cl A (mw cI cZ o))) 0 S [v1]) : GV p l e ({ frames := 2, cells := 0, slots := 0, locals := 41 }) s m args below meth c (MQ below (va_Qi post (GB (mw cI cZ o) (dC, dI) gx_cl [(cI, .int), (cZ, .boolean)] A) A) args s 0 0 A) 2 (dC, dI) gx_cl A (mw cI cZ o) S 0 [(0, .ref (o 0)), (1, .int v1)] [] := by
  refine gx_iload_n C dM_isValue_0 1 rfl rfl ?_
  refine gx_calls (As := [.int v1]) (rest := []) C (mt_M_leads l dC dI cI cZ o  _ _ _ hs) (gx_cwS C 1 ln_M_61 sm_M_leads in_CountedObjectsModel cd_M_leads rfl rfl (by decide +kernel) ⟨Nat.le_of_ble_eq_true rfl, Nat.le_of_ble_eq_true rfl⟩) rfl (Nat.le_of_ble_eq_true rfl) dM_isValue_1 (fun S1 => mw_ad _ S1) rfl (fun r2 S1 hs => ?_)
  obtain ⟨ht, hf⟩ := hs
  refine gx_if_eq C dM_isValue_4 15 rfl (fun hc => ?_) (fun hc => ?_)
  · have hs := ht hc
    refine gx_iconst (v := 1) C dM_isValue_15 (by decide) ?_
    refine gx_goto C dM_isValue_16 20 rfl ?_
    exact gx_zret C hr hlocks dM_isValue_20 hs rfl
  · have hs := hf hc
    refine gx_aload_n C dM_isValue_7 0 rfl rfl ?_
    refine gx_iload_n C dM_isValue_8 1 rfl rfl ?_
    refine gx_calli (As := [.int v1]) (rest := []) C (mt_M_isObject l dC dI cI cZ o  _ _ _ hs) (gx_cwV C 1 ln_M_65 im_M_isObject se_M_isObject in_CountedObjectsModel cd_M_isObject rfl rfl (by decide +kernel) ⟨Nat.le_of_ble_eq_true rfl, Nat.le_of_ble_eq_true rfl⟩) mo_this rfl (Nat.le_of_ble_eq_true rfl) dM_isValue_9 (fun S1 => mw_ad _ S1) rfl (fun r4 S3 hs => ?_)
    obtain ⟨ht, hf⟩ := hs
    refine gx_if_eq C dM_isValue_12 19 rfl (fun hc => ?_) (fun hc => ?_)
    · have hs := ht hc
      refine gx_iconst (v := 0) C dM_isValue_19 (by decide) ?_
      exact gx_zret C hr hlocks dM_isValue_20 hs rfl
    · have hs := hf hc
      refine gx_iconst (v := 1) C dM_isValue_15 (by decide) ?_
      refine gx_goto C dM_isValue_16 20 rfl ?_
      exact gx_zret C hr hlocks dM_isValue_20 hs rfl
set_option maxHeartbeats 4000000 in
set_option maxRecDepth 100000 in
theorem mt_M_isValue (l : Launch) (dC : Nat → ClassId) (dI : Nat → Nat → Nat) (cI cZ : ClassId) (o : Nat → Nat) (v1 : Int32) (S : GS) (post : Int32 → GS → Prop) (h : wp_M_isValue [v1] S post) : MetI l yM_isValue (Cond.code yM_isValue cM_isValue 2 (some .boolean) :: wsA) ({ frames := 2, cells := 0, slots := 0, locals := 41 }) (dC, dI) gx_cl [(cI, .int), (cZ, .boolean)] (mw cI cZ o) [.ref (o 0), .int v1] S post := by
  refine gx_metI (by decide) wsA_good (Nat.le_of_ble_eq_true rfl) ?_
  intro p e s m args below meth c A C hr hlocks
  refine h (vh_M_isValue o (GV p l e ({ frames := 2, cells := 0, slots := 0, locals := 41 }) s m args below meth c (MQ below (va_Qi post (GB (mw cI cZ o) (dC, dI) gx_cl [(cI, .int), (cZ, .boolean)] A) A) args s 0 0 A) 2 (dC, dI) gx_cl A (mw cI cZ o))) (fun h S xs hs => ?_)
  unfold sp_M_isValue at hs
  split at hs
  · exact wk_M_isValue_0 C hr hlocks _ _ hs
  · exact hs.elim
/-- CountedObjectsModel.isRegister(I)Z: a step from head to head -/
def sp_M_isRegister (post : Int32 → GS → Prop) (V : Nat → GS → List Int32 → Prop) (h : Nat) (S : GS) (xs : List Int32) : Prop := match h, xs with
  | 0, [v0] => ((v0 < 0 → post 0 S) ∧ (¬ v0 < 0 → ((8 ≤ v0 → post 0 S) ∧ (¬ 8 ≤ v0 → post 1 S))))
  | _, _ => False
def wp_M_isRegister (xs : List Int32) (S : GS) (post : Int32 → GS → Prop) : Prop := ∀ V : Nat → GS → List Int32 → Prop, (∀ h S xs, sp_M_isRegister post V h S xs → V h S xs) → V 0 S xs
def vh_M_isRegister (o : Nat → Nat) (G : GS → Nat → List (Nat × Value) → List Value → Prop) (h : Nat) (S : GS) (xs : List Int32) : Prop := match h, xs with
  | 0, [v0] => G S 0 [(0, .int v0)] []
  | _, _ => True
set_option maxHeartbeats 4000000 in
set_option maxRecDepth 100000 in
theorem wk_M_isRegister_0 {l : Launch} {dC : Nat → ClassId} {dI : Nat → Nat → Nat} {cI cZ : ClassId} {o : Nat → Nat}  {p : Program} {e : Env} {s : State} {m : MethodId} {args : Array Value} {below : List Frame} {meth : Method} {c : Code} {A : Nat → Prop} {post : Int32 → GS → Prop} (C : GC p s m args c cM_isRegister 1 RM wsA (dC, dI) gx_cl [(cI, .int), (cZ, .boolean)] A) (hr : meth.sig.returnType = (some .boolean)) (hlocks : meth.locks = false) (S : GS) (v0 : Int32) (hs : sp_M_isRegister post (vh_M_isRegister o (GV p l e ({ frames := 0, cells := 0, slots := 0, locals := 0 }) s m args below meth c (MQ below (va_Qi post (GB (mw cI cZ o) (dC, dI) gx_cl [(cI, .int), (cZ, .boolean)] A) A) args s 0 0 A) 1 (dC, dI) gx_cl A (mw cI cZ o))) 0 S [v0]) : GV p l e ({ frames := 0, cells := 0, slots := 0, locals := 0 }) s m args below meth c (MQ below (va_Qi post (GB (mw cI cZ o) (dC, dI) gx_cl [(cI, .int), (cZ, .boolean)] A) A) args s 0 0 A) 1 (dC, dI) gx_cl A (mw cI cZ o) S 0 [(0, .int v0)] [] := by
  refine gx_iload_n C dM_isRegister_0 0 rfl rfl ?_
  obtain ⟨ht, hf⟩ := hs
  refine gx_if_lt C dM_isRegister_1 14 rfl (fun hc => ?_) (fun hc => ?_)
  · have hs := ht hc
    refine gx_iconst (v := 0) C dM_isRegister_14 (by decide) ?_
    exact gx_zret C hr hlocks dM_isRegister_15 hs rfl
  · have hs := hf hc
    refine gx_iload_n C dM_isRegister_4 0 rfl rfl ?_
    refine gx_bipush (v := 8) C dM_isRegister_5 (by decide) ?_
    obtain ⟨ht, hf⟩ := hs
    refine gx_icmp_ge C dM_isRegister_7 14 rfl (fun hc => ?_) (fun hc => ?_)
    · have hs := ht hc
      refine gx_iconst (v := 0) C dM_isRegister_14 (by decide) ?_
      exact gx_zret C hr hlocks dM_isRegister_15 hs rfl
    · have hs := hf hc
      refine gx_iconst (v := 1) C dM_isRegister_10 (by decide) ?_
      refine gx_goto C dM_isRegister_11 15 rfl ?_
      exact gx_zret C hr hlocks dM_isRegister_15 hs rfl
set_option maxHeartbeats 4000000 in
set_option maxRecDepth 100000 in
theorem mt_M_isRegister (l : Launch) (dC : Nat → ClassId) (dI : Nat → Nat → Nat) (cI cZ : ClassId) (o : Nat → Nat) (v0 : Int32) (S : GS) (post : Int32 → GS → Prop) (h : wp_M_isRegister [v0] S post) : MetI l yM_isRegister (Cond.code yM_isRegister cM_isRegister 1 (some .boolean) :: wsA) ({ frames := 0, cells := 0, slots := 0, locals := 0 }) (dC, dI) gx_cl [(cI, .int), (cZ, .boolean)] (mw cI cZ o) [.int v0] S post := by
  refine gx_metI (by decide) wsA_good (Nat.le_of_ble_eq_true rfl) ?_
  intro p e s m args below meth c A C hr hlocks
  refine h (vh_M_isRegister o (GV p l e ({ frames := 0, cells := 0, slots := 0, locals := 0 }) s m args below meth c (MQ below (va_Qi post (GB (mw cI cZ o) (dC, dI) gx_cl [(cI, .int), (cZ, .boolean)] A) A) args s 0 0 A) 1 (dC, dI) gx_cl A (mw cI cZ o))) (fun h S xs hs => ?_)
  unfold sp_M_isRegister at hs
  split at hs
  · exact wk_M_isRegister_0 C hr hlocks _ _ hs
  · exact hs.elim
/-- CountedObjectsModel.give(II)V: a step from head to head -/
def sp_M_give (post : GS → Prop) (V : Nat → GS → List Int32 → Prop) (h : Nat) (S : GS) (xs : List Int32) : Prop := match h, xs with
  | 0, [v1, v2] => (vp_in (S 100 3) 400 ∧ ∀ S1 : GS, S1 = gx_set 6 (S 100 3).toNatClampNeg v1 S → (vp_in (S1 100 3) 400 ∧ ∀ S2 : GS, S2 = gx_set 7 (S1 100 3).toNatClampNeg v2 S1 → (vp_in (S2 100 3) 400 ∧ ∀ S3 : GS, S3 = gx_set 8 (S2 100 3).toNatClampNeg (S2 100 4) S2 → (∀ S4 : GS, S4 = gx_set 100 4 ((S3 100 4) + 1) S3 → (∀ S5 : GS, S5 = gx_set 100 3 ((S4 100 3) + 1) S4 → post S5)))))
  | _, _ => False
def wp_M_give (xs : List Int32) (S : GS) (post : GS → Prop) : Prop := ∀ V : Nat → GS → List Int32 → Prop, (∀ h S xs, sp_M_give post V h S xs → V h S xs) → V 0 S xs
def vh_M_give (o : Nat → Nat) (G : GS → Nat → List (Nat × Value) → List Value → Prop) (h : Nat) (S : GS) (xs : List Int32) : Prop := match h, xs with
  | 0, [v1, v2] => G S 0 [(0, .ref (o 0)), (1, .int v1), (2, .int v2)] []
  | _, _ => True
set_option maxHeartbeats 4000000 in
set_option maxRecDepth 100000 in
theorem wk_M_give_0 {l : Launch} {dC : Nat → ClassId} {dI : Nat → Nat → Nat} {cI cZ : ClassId} {o : Nat → Nat}  {p : Program} {e : Env} {s : State} {m : MethodId} {args : Array Value} {below : List Frame} {meth : Method} {c : Code} {A : Nat → Prop} {post : GS → Prop} (C : GC p s m args c cM_give 3 RM wsA (dC, dI) gx_cl [(cI, .int), (cZ, .boolean)] A) (hr : meth.sig.returnType = none) (hlocks : meth.locks = false) (S : GS) (v1 : Int32) (v2 : Int32) (hs : sp_M_give post (vh_M_give o (GV p l e ({ frames := 0, cells := 0, slots := 0, locals := 0 }) s m args below meth c (MQ below (va_Qv post (GB (mw cI cZ o) (dC, dI) gx_cl [(cI, .int), (cZ, .boolean)] A) A) args s 0 0 A) 3 (dC, dI) gx_cl A (mw cI cZ o))) 0 S [v1, v2]) : GV p l e ({ frames := 0, cells := 0, slots := 0, locals := 0 }) s m args below meth c (MQ below (va_Qv post (GB (mw cI cZ o) (dC, dI) gx_cl [(cI, .int), (cZ, .boolean)] A) A) args s 0 0 A) 3 (dC, dI) gx_cl A (mw cI cZ o) S 0 [(0, .ref (o 0)), (1, .int v1), (2, .int v2)] [] := by
  refine gx_aload_n C dM_give_0 0 rfl rfl ?_
  refine gx_get C mo_this hi_M 10 (by decide) fl_M_29 rfl dM_give_1 ?_
  refine gx_aload_n C dM_give_4 0 rfl rfl ?_
  refine gx_get C mo_this hi_M 9 (by decide) fl_M_68 rfl dM_give_5 ?_
  refine gx_iload_n C dM_give_8 1 rfl rfl ?_
  obtain ⟨hin, hs⟩ := hs
  refine gx_iast C ma_begins hin dM_give_9 (fun S1 eS1 => ?_)
  replace hs := hs S1 eS1
  refine gx_aload_n C dM_give_10 0 rfl rfl ?_
  refine gx_get C mo_this hi_M 11 (by decide) fl_M_32 rfl dM_give_11 ?_
  refine gx_aload_n C dM_give_14 0 rfl rfl ?_
  refine gx_get C mo_this hi_M 9 (by decide) fl_M_68 rfl dM_give_15 ?_
  refine gx_iload_n C dM_give_18 2 rfl rfl ?_
  obtain ⟨hin, hs⟩ := hs
  refine gx_iast C ma_lengths hin dM_give_19 (fun S2 eS2 => ?_)
  replace hs := hs S2 eS2
  refine gx_aload_n C dM_give_20 0 rfl rfl ?_
  refine gx_get C mo_this hi_M 12 (by decide) fl_M_35 rfl dM_give_21 ?_
  refine gx_aload_n C dM_give_24 0 rfl rfl ?_
  refine gx_get C mo_this hi_M 9 (by decide) fl_M_68 rfl dM_give_25 ?_
  refine gx_aload_n C dM_give_28 0 rfl rfl ?_
  refine gx_get C mo_this hi_M 13 (by decide) fl_M_71 rfl dM_give_29 ?_
  obtain ⟨hin, hs⟩ := hs
  refine gx_iast C ma_came hin dM_give_32 (fun S3 eS3 => ?_)
  replace hs := hs S3 eS3
  refine gx_aload_n C dM_give_33 0 rfl rfl ?_
  refine gx_dup C dM_give_34 rfl ?_
  refine gx_get C mo_this hi_M 13 (by decide) fl_M_71 rfl dM_give_35 ?_
  refine gx_iconst (v := 1) C dM_give_38 (by decide) ?_
  refine gx_iadd C dM_give_39 ?_
  refine gx_put C mo_this hi_M tyM tyM_ok nmM 13 (by decide) fl_M_71 rfl (by decide +kernel) (Nat.le_of_ble_eq_true rfl) (mp_clock _ _) dM_give_40 (fun S4 eS4 => ?_)
  replace hs := hs S4 eS4
  refine gx_aload_n C dM_give_43 0 rfl rfl ?_
  refine gx_dup C dM_give_44 rfl ?_
  refine gx_get C mo_this hi_M 9 (by decide) fl_M_68 rfl dM_give_45 ?_
  refine gx_iconst (v := 1) C dM_give_48 (by decide) ?_
  refine gx_iadd C dM_give_49 ?_
  refine gx_put C mo_this hi_M tyM tyM_ok nmM 9 (by decide) fl_M_68 rfl (by decide +kernel) (Nat.le_of_ble_eq_true rfl) (mp_frees _ _) dM_give_50 (fun S5 eS5 => ?_)
  replace hs := hs S5 eS5
  exact gx_vret C hr hlocks dM_give_53 hs
set_option maxHeartbeats 4000000 in
set_option maxRecDepth 100000 in
theorem mt_M_give (l : Launch) (dC : Nat → ClassId) (dI : Nat → Nat → Nat) (cI cZ : ClassId) (o : Nat → Nat) (v1 : Int32) (v2 : Int32) (S : GS) (post : GS → Prop) (h : wp_M_give [v1, v2] S post) : MetV l yM_give (Cond.code yM_give cM_give 3 none :: wsA) ({ frames := 0, cells := 0, slots := 0, locals := 0 }) (dC, dI) gx_cl [(cI, .int), (cZ, .boolean)] (mw cI cZ o) [.ref (o 0), .int v1, .int v2] S post := by
  refine gx_metV (by decide) wsA_good (Nat.le_of_ble_eq_true rfl) ?_
  intro p e s m args below meth c A C hr hlocks
  refine h (vh_M_give o (GV p l e ({ frames := 0, cells := 0, slots := 0, locals := 0 }) s m args below meth c (MQ below (va_Qv post (GB (mw cI cZ o) (dC, dI) gx_cl [(cI, .int), (cZ, .boolean)] A) A) args s 0 0 A) 3 (dC, dI) gx_cl A (mw cI cZ o))) (fun h S xs hs => ?_)
  unfold sp_M_give at hs
  split at hs
  · exact wk_M_give_0 C hr hlocks _ _ _ hs
  · exact hs.elim
/-- CountedObjectsModel.freeWords()I: a step from head to head -/
def sp_M_freeWords (post : Int32 → GS → Prop) (V : Nat → GS → List Int32 → Prop) (h : Nat) (S : GS) (xs : List Int32) : Prop := match h, xs with
  | 0, [] => ∀ y1 : Int32, y1 = 0 → ∀ y2 : Int32, y2 = 0 → V 4 S [y1, y2]
  | 4, [v1, v2] => (((S 100 3) ≤ v2 → post v1 S) ∧ (¬ (S 100 3) ≤ v2 → (vp_in v2 400 ∧ ∀ y1 : Int32, y1 = v1 + (S 7 (v2).toNatClampNeg) → (∀ y2 : Int32, y2 = v2 + 1 → V 4 S [y1, y2]))))
  | _, _ => False
def wp_M_freeWords (xs : List Int32) (S : GS) (post : Int32 → GS → Prop) : Prop := ∀ V : Nat → GS → List Int32 → Prop, (∀ h S xs, sp_M_freeWords post V h S xs → V h S xs) → V 0 S xs
def vh_M_freeWords (o : Nat → Nat) (G : GS → Nat → List (Nat × Value) → List Value → Prop) (h : Nat) (S : GS) (xs : List Int32) : Prop := match h, xs with
  | 0, [] => G S 0 [(0, .ref (o 0))] []
  | 4, [v1, v2] => G S 4 [(0, .ref (o 0)), (1, .int v1), (2, .int v2)] []
  | _, _ => True
set_option maxHeartbeats 4000000 in
set_option maxRecDepth 100000 in
theorem wk_M_freeWords_0 {l : Launch} {dC : Nat → ClassId} {dI : Nat → Nat → Nat} {cI cZ : ClassId} {o : Nat → Nat}  {p : Program} {e : Env} {s : State} {m : MethodId} {args : Array Value} {below : List Frame} {meth : Method} {c : Code} {A : Nat → Prop} {post : Int32 → GS → Prop} (C : GC p s m args c cM_freeWords 3 RM wsA (dC, dI) gx_cl [(cI, .int), (cZ, .boolean)] A) (hr : meth.sig.returnType = (some .int)) (hlocks : meth.locks = false) (S : GS) (hs : sp_M_freeWords post (vh_M_freeWords o (GV p l e ({ frames := 0, cells := 0, slots := 0, locals := 0 }) s m args below meth c (MQ below (va_Qi post (GB (mw cI cZ o) (dC, dI) gx_cl [(cI, .int), (cZ, .boolean)] A) A) args s 0 0 A) 3 (dC, dI) gx_cl A (mw cI cZ o))) 0 S []) : GV p l e ({ frames := 0, cells := 0, slots := 0, locals := 0 }) s m args below meth c (MQ below (va_Qi post (GB (mw cI cZ o) (dC, dI) gx_cl [(cI, .int), (cZ, .boolean)] A) A) args s 0 0 A) 3 (dC, dI) gx_cl A (mw cI cZ o) S 0 [(0, .ref (o 0))] [] := by
  refine gx_iconst (v := 0) C dM_freeWords_0 (by decide) ?_
  refine gx_top (fun y1 ey1 => ?_)
  replace hs := hs y1 ey1
  refine gx_istore_n (L' := [(1, .int y1), (0, .ref (o 0))]) C dM_freeWords_1 rfl (by decide) rfl ?_
  refine gx_iconst (v := 0) C dM_freeWords_2 (by decide) ?_
  refine gx_top (fun y2 ey2 => ?_)
  replace hs := hs y2 ey2
  refine gx_istore_n (L' := [(2, .int y2), (1, .int y1), (0, .ref (o 0))]) C dM_freeWords_3 rfl (by decide) rfl ?_
  exact gx_sub [2, 1, 0] rfl hs
set_option maxHeartbeats 4000000 in
set_option maxRecDepth 100000 in
theorem wk_M_freeWords_4 {l : Launch} {dC : Nat → ClassId} {dI : Nat → Nat → Nat} {cI cZ : ClassId} {o : Nat → Nat}  {p : Program} {e : Env} {s : State} {m : MethodId} {args : Array Value} {below : List Frame} {meth : Method} {c : Code} {A : Nat → Prop} {post : Int32 → GS → Prop} (C : GC p s m args c cM_freeWords 3 RM wsA (dC, dI) gx_cl [(cI, .int), (cZ, .boolean)] A) (hr : meth.sig.returnType = (some .int)) (hlocks : meth.locks = false) (S : GS) (v1 : Int32) (v2 : Int32) (hs : sp_M_freeWords post (vh_M_freeWords o (GV p l e ({ frames := 0, cells := 0, slots := 0, locals := 0 }) s m args below meth c (MQ below (va_Qi post (GB (mw cI cZ o) (dC, dI) gx_cl [(cI, .int), (cZ, .boolean)] A) A) args s 0 0 A) 3 (dC, dI) gx_cl A (mw cI cZ o))) 4 S [v1, v2]) : GV p l e ({ frames := 0, cells := 0, slots := 0, locals := 0 }) s m args below meth c (MQ below (va_Qi post (GB (mw cI cZ o) (dC, dI) gx_cl [(cI, .int), (cZ, .boolean)] A) A) args s 0 0 A) 3 (dC, dI) gx_cl A (mw cI cZ o) S 4 [(0, .ref (o 0)), (1, .int v1), (2, .int v2)] [] := by
  refine gx_iload_n C dM_freeWords_4 2 rfl rfl ?_
  refine gx_aload_n C dM_freeWords_5 0 rfl rfl ?_
  refine gx_get C mo_this hi_M 9 (by decide) fl_M_68 rfl dM_freeWords_6 ?_
  obtain ⟨ht, hf⟩ := hs
  refine gx_icmp_ge C dM_freeWords_9 27 rfl (fun hc => ?_) (fun hc => ?_)
  · have hs := ht hc
    refine gx_iload_n C dM_freeWords_27 1 rfl rfl ?_
    exact gx_iret C hr hlocks dM_freeWords_28 hs
  · have hs := hf hc
    refine gx_iload_n C dM_freeWords_12 1 rfl rfl ?_
    refine gx_aload_n C dM_freeWords_13 0 rfl rfl ?_
    refine gx_get C mo_this hi_M 11 (by decide) fl_M_32 rfl dM_freeWords_14 ?_
    refine gx_iload_n C dM_freeWords_17 2 rfl rfl ?_
    obtain ⟨hin, hs⟩ := hs
    refine gx_iald C ma_lengths hin dM_freeWords_18 ?_
    refine gx_iadd C dM_freeWords_19 ?_
    refine gx_top (fun y1 ey1 => ?_)
    replace hs := hs y1 ey1
    refine gx_istore_n (L' := [(1, .int y1), (0, .ref (o 0)), (2, .int v2)]) C dM_freeWords_20 rfl (by decide) rfl ?_
    refine gx_iinc (v0 := 1) (f := fun v => [(2, .int v), (1, .int y1), (0, .ref (o 0))]) C dM_freeWords_21 2 rfl (by decide) (by decide) (fun _ => rfl) (fun y2 ey2 => ?_)
    replace hs := hs y2 ey2
    refine gx_goto C dM_freeWords_24 4 rfl ?_
    exact gx_sub [2, 1, 0] rfl hs
set_option maxHeartbeats 4000000 in
set_option maxRecDepth 100000 in
theorem mt_M_freeWords (l : Launch) (dC : Nat → ClassId) (dI : Nat → Nat → Nat) (cI cZ : ClassId) (o : Nat → Nat) (S : GS) (post : Int32 → GS → Prop) (h : wp_M_freeWords [] S post) : MetI l yM_freeWords (Cond.code yM_freeWords cM_freeWords 3 (some .int) :: wsA) ({ frames := 0, cells := 0, slots := 0, locals := 0 }) (dC, dI) gx_cl [(cI, .int), (cZ, .boolean)] (mw cI cZ o) [.ref (o 0)] S post := by
  refine gx_metI (by decide) wsA_good (Nat.le_of_ble_eq_true rfl) ?_
  intro p e s m args below meth c A C hr hlocks
  refine h (vh_M_freeWords o (GV p l e ({ frames := 0, cells := 0, slots := 0, locals := 0 }) s m args below meth c (MQ below (va_Qi post (GB (mw cI cZ o) (dC, dI) gx_cl [(cI, .int), (cZ, .boolean)] A) A) args s 0 0 A) 3 (dC, dI) gx_cl A (mw cI cZ o))) (fun h S xs hs => ?_)
  unfold sp_M_freeWords at hs
  split at hs
  · exact wk_M_freeWords_0 C hr hlocks _ hs
  · exact wk_M_freeWords_4 C hr hlocks _ _ _ hs
  · exact hs.elim
/-- CountedObjectsModel.fitting(I)I: a step from head to head -/
def sp_M_fitting (post : Int32 → GS → Prop) (V : Nat → GS → List Int32 → Prop) (h : Nat) (S : GS) (xs : List Int32) : Prop := match h, xs with
  | 0, [v1] => ∀ y1 : Int32, y1 = (-1) → ∀ y2 : Int32, y2 = 0 → V 4 S [v1, y1, y2]
  | 4, [v1, v2, v3] => (((S 100 3) ≤ v3 → post v2 S) ∧ (¬ (S 100 3) ≤ v3 → (vp_in v3 400 ∧ (((S 7 (v3).toNatClampNeg) < v1 → ∀ y1 : Int32, y1 = 0 → ((y1 = 0 → (∀ y2 : Int32, y2 = v3 + 1 → V 4 S [v1, v2, y2])) ∧ (¬ y1 = 0 → ((v2 < 0 → (∀ y3 : Int32, y3 = v3 + 1 → V 4 S [v1, v3, y3])) ∧ (¬ v2 < 0 → (vp_in v3 400 ∧ (vp_in v2 400 ∧ (((S 7 (v3).toNatClampNeg) < (S 7 (v2).toNatClampNeg) → (∀ y4 : Int32, y4 = v3 + 1 → V 4 S [v1, v3, y4])) ∧ (¬ (S 7 (v3).toNatClampNeg) < (S 7 (v2).toNatClampNeg) → (vp_in v3 400 ∧ (vp_in v2 400 ∧ ((¬ (S 7 (v3).toNatClampNeg) = (S 7 (v2).toNatClampNeg) → (∀ y5 : Int32, y5 = v3 + 1 → V 4 S [v1, v2, y5])) ∧ ((S 7 (v3).toNatClampNeg) = (S 7 (v2).toNatClampNeg) → (vp_in v3 400 ∧ (vp_in v2 400 ∧ (((S 8 (v3).toNatClampNeg) ≤ (S 8 (v2).toNatClampNeg) → (∀ y6 : Int32, y6 = v3 + 1 → V 4 S [v1, v2, y6])) ∧ (¬ (S 8 (v3).toNatClampNeg) ≤ (S 8 (v2).toNatClampNeg) → (∀ y7 : Int32, y7 = v3 + 1 → V 4 S [v1, v3, y7])))))))))))))))))) ∧ (¬ (S 7 (v3).toNatClampNeg) < v1 → ∀ y8 : Int32, y8 = 1 → ((y8 = 0 → (∀ y9 : Int32, y9 = v3 + 1 → V 4 S [v1, v2, y9])) ∧ (¬ y8 = 0 → ((v2 < 0 → (∀ y10 : Int32, y10 = v3 + 1 → V 4 S [v1, v3, y10])) ∧ (¬ v2 < 0 → (vp_in v3 400 ∧ (vp_in v2 400 ∧ (((S 7 (v3).toNatClampNeg) < (S 7 (v2).toNatClampNeg) → (∀ y11 : Int32, y11 = v3 + 1 → V 4 S [v1, v3, y11])) ∧ (¬ (S 7 (v3).toNatClampNeg) < (S 7 (v2).toNatClampNeg) → (vp_in v3 400 ∧ (vp_in v2 400 ∧ ((¬ (S 7 (v3).toNatClampNeg) = (S 7 (v2).toNatClampNeg) → (∀ y12 : Int32, y12 = v3 + 1 → V 4 S [v1, v2, y12])) ∧ ((S 7 (v3).toNatClampNeg) = (S 7 (v2).toNatClampNeg) → (vp_in v3 400 ∧ (vp_in v2 400 ∧ (((S 8 (v3).toNatClampNeg) ≤ (S 8 (v2).toNatClampNeg) → (∀ y13 : Int32, y13 = v3 + 1 → V 4 S [v1, v2, y13])) ∧ (¬ (S 8 (v3).toNatClampNeg) ≤ (S 8 (v2).toNatClampNeg) → (∀ y14 : Int32, y14 = v3 + 1 → V 4 S [v1, v3, y14]))))))))))))))))))))))
  | _, _ => False
def wp_M_fitting (xs : List Int32) (S : GS) (post : Int32 → GS → Prop) : Prop := ∀ V : Nat → GS → List Int32 → Prop, (∀ h S xs, sp_M_fitting post V h S xs → V h S xs) → V 0 S xs
def vh_M_fitting (o : Nat → Nat) (G : GS → Nat → List (Nat × Value) → List Value → Prop) (h : Nat) (S : GS) (xs : List Int32) : Prop := match h, xs with
  | 0, [v1] => G S 0 [(0, .ref (o 0)), (1, .int v1)] []
  | 4, [v1, v2, v3] => G S 4 [(0, .ref (o 0)), (1, .int v1), (2, .int v2), (3, .int v3)] []
  | _, _ => True
set_option maxHeartbeats 4000000 in
set_option maxRecDepth 100000 in
theorem wk_M_fitting_0 {l : Launch} {dC : Nat → ClassId} {dI : Nat → Nat → Nat} {cI cZ : ClassId} {o : Nat → Nat}  {p : Program} {e : Env} {s : State} {m : MethodId} {args : Array Value} {below : List Frame} {meth : Method} {c : Code} {A : Nat → Prop} {post : Int32 → GS → Prop} (C : GC p s m args c cM_fitting 5 RM wsA (dC, dI) gx_cl [(cI, .int), (cZ, .boolean)] A) (hr : meth.sig.returnType = (some .int)) (hlocks : meth.locks = false) (S : GS) (v1 : Int32) (hs : sp_M_fitting post (vh_M_fitting o (GV p l e ({ frames := 0, cells := 0, slots := 0, locals := 0 }) s m args below meth c (MQ below (va_Qi post (GB (mw cI cZ o) (dC, dI) gx_cl [(cI, .int), (cZ, .boolean)] A) A) args s 0 0 A) 5 (dC, dI) gx_cl A (mw cI cZ o))) 0 S [v1]) : GV p l e ({ frames := 0, cells := 0, slots := 0, locals := 0 }) s m args below meth c (MQ below (va_Qi post (GB (mw cI cZ o) (dC, dI) gx_cl [(cI, .int), (cZ, .boolean)] A) A) args s 0 0 A) 5 (dC, dI) gx_cl A (mw cI cZ o) S 0 [(0, .ref (o 0)), (1, .int v1)] [] := by
  refine gx_iconst (v := (-1)) C dM_fitting_0 (by decide) ?_
  refine gx_top (fun y1 ey1 => ?_)
  replace hs := hs y1 ey1
  refine gx_istore_n (L' := [(2, .int y1), (0, .ref (o 0)), (1, .int v1)]) C dM_fitting_1 rfl (by decide) rfl ?_
  refine gx_iconst (v := 0) C dM_fitting_2 (by decide) ?_
  refine gx_top (fun y2 ey2 => ?_)
  replace hs := hs y2 ey2
  refine gx_istore_n (L' := [(3, .int y2), (2, .int y1), (0, .ref (o 0)), (1, .int v1)]) C dM_fitting_3 rfl (by decide) rfl ?_
  exact gx_sub [2, 3, 1, 0] rfl hs
set_option maxHeartbeats 4000000 in
set_option maxRecDepth 100000 in
theorem wk_M_fitting_4 {l : Launch} {dC : Nat → ClassId} {dI : Nat → Nat → Nat} {cI cZ : ClassId} {o : Nat → Nat}  {p : Program} {e : Env} {s : State} {m : MethodId} {args : Array Value} {below : List Frame} {meth : Method} {c : Code} {A : Nat → Prop} {post : Int32 → GS → Prop} (C : GC p s m args c cM_fitting 5 RM wsA (dC, dI) gx_cl [(cI, .int), (cZ, .boolean)] A) (hr : meth.sig.returnType = (some .int)) (hlocks : meth.locks = false) (S : GS) (v1 : Int32) (v2 : Int32) (v3 : Int32) (hs : sp_M_fitting post (vh_M_fitting o (GV p l e ({ frames := 0, cells := 0, slots := 0, locals := 0 }) s m args below meth c (MQ below (va_Qi post (GB (mw cI cZ o) (dC, dI) gx_cl [(cI, .int), (cZ, .boolean)] A) A) args s 0 0 A) 5 (dC, dI) gx_cl A (mw cI cZ o))) 4 S [v1, v2, v3]) : GV p l e ({ frames := 0, cells := 0, slots := 0, locals := 0 }) s m args below meth c (MQ below (va_Qi post (GB (mw cI cZ o) (dC, dI) gx_cl [(cI, .int), (cZ, .boolean)] A) A) args s 0 0 A) 5 (dC, dI) gx_cl A (mw cI cZ o) S 4 [(0, .ref (o 0)), (1, .int v1), (2, .int v2), (3, .int v3)] [] := by
  refine gx_iload_n C dM_fitting_4 3 rfl rfl ?_
  refine gx_aload_n C dM_fitting_5 0 rfl rfl ?_
  refine gx_get C mo_this hi_M 9 (by decide) fl_M_68 rfl dM_fitting_6 ?_
  obtain ⟨ht, hf⟩ := hs
  refine gx_icmp_ge C dM_fitting_9 91 rfl (fun hc => ?_) (fun hc => ?_)
  · have hs := ht hc
    refine gx_iload_n C dM_fitting_91 2 rfl rfl ?_
    exact gx_iret C hr hlocks dM_fitting_92 hs
  · have hs := hf hc
    refine gx_aload_n C dM_fitting_12 0 rfl rfl ?_
    refine gx_get C mo_this hi_M 11 (by decide) fl_M_32 rfl dM_fitting_13 ?_
    refine gx_iload_n C dM_fitting_16 3 rfl rfl ?_
    obtain ⟨hin, hs⟩ := hs
    refine gx_iald C ma_lengths hin dM_fitting_17 ?_
    refine gx_iload_n C dM_fitting_18 1 rfl rfl ?_
    obtain ⟨ht, hf⟩ := hs
    refine gx_icmp_lt C dM_fitting_19 26 rfl (fun hc => ?_) (fun hc => ?_)
    · have hs := ht hc
      refine gx_iconst (v := 0) C dM_fitting_26 (by decide) ?_
      refine gx_top (fun y1 ey1 => ?_)
      replace hs := hs y1 ey1
      refine gx_istore (L' := [(4, .int y1), (0, .ref (o 0)), (1, .int v1), (2, .int v2), (3, .int v3)]) C dM_fitting_27 (by decide) rfl ?_
      refine gx_iload C dM_fitting_29 0 rfl ?_
      obtain ⟨ht, hf⟩ := hs
      refine gx_if_eq C dM_fitting_31 85 rfl (fun hc => ?_) (fun hc => ?_)
      · have hs := ht hc
        refine gx_iinc (v0 := 1) (f := fun v => [(3, .int v), (4, .int y1), (0, .ref (o 0)), (1, .int v1), (2, .int v2)]) C dM_fitting_85 4 rfl (by decide) (by decide) (fun _ => rfl) (fun y2 ey2 => ?_)
        replace hs := hs y2 ey2
        refine gx_goto C dM_fitting_88 4 rfl ?_
        exact gx_sub [2, 3, 4, 0] rfl hs
      · have hs := hf hc
        refine gx_iload_n C dM_fitting_34 3 rfl rfl ?_
        obtain ⟨ht, hf⟩ := hs
        refine gx_if_lt C dM_fitting_35 83 rfl (fun hc => ?_) (fun hc => ?_)
        · have hs := ht hc
          refine gx_iload_n C dM_fitting_83 4 rfl rfl ?_
          refine gx_istore_n (L' := [(2, .int v3), (4, .int y1), (0, .ref (o 0)), (1, .int v1), (3, .int v3)]) C dM_fitting_84 rfl (by decide) rfl ?_
          refine gx_iinc (v0 := 1) (f := fun v => [(3, .int v), (2, .int v3), (4, .int y1), (0, .ref (o 0)), (1, .int v1)]) C dM_fitting_85 4 rfl (by decide) (by decide) (fun _ => rfl) (fun y3 ey3 => ?_)
          replace hs := hs y3 ey3
          refine gx_goto C dM_fitting_88 4 rfl ?_
          exact gx_sub [3, 4, 1, 0] rfl hs
        · have hs := hf hc
          refine gx_aload_n C dM_fitting_38 1 rfl rfl ?_
          refine gx_get C mo_this hi_M 11 (by decide) fl_M_32 rfl dM_fitting_39 ?_
          refine gx_iload_n C dM_fitting_42 4 rfl rfl ?_
          obtain ⟨hin, hs⟩ := hs
          refine gx_iald C ma_lengths hin dM_fitting_43 ?_
          refine gx_aload_n C dM_fitting_44 1 rfl rfl ?_
          refine gx_get C mo_this hi_M 11 (by decide) fl_M_32 rfl dM_fitting_45 ?_
          refine gx_iload_n C dM_fitting_48 3 rfl rfl ?_
          obtain ⟨hin, hs⟩ := hs
          refine gx_iald C ma_lengths hin dM_fitting_49 ?_
          obtain ⟨ht, hf⟩ := hs
          refine gx_icmp_lt C dM_fitting_50 83 rfl (fun hc => ?_) (fun hc => ?_)
          · have hs := ht hc
            refine gx_iload_n C dM_fitting_83 4 rfl rfl ?_
            refine gx_istore_n (L' := [(2, .int v3), (4, .int y1), (0, .ref (o 0)), (1, .int v1), (3, .int v3)]) C dM_fitting_84 rfl (by decide) rfl ?_
            refine gx_iinc (v0 := 1) (f := fun v => [(3, .int v), (2, .int v3), (4, .int y1), (0, .ref (o 0)), (1, .int v1)]) C dM_fitting_85 4 rfl (by decide) (by decide) (fun _ => rfl) (fun y4 ey4 => ?_)
            replace hs := hs y4 ey4
            refine gx_goto C dM_fitting_88 4 rfl ?_
            exact gx_sub [3, 4, 1, 0] rfl hs
          · have hs := hf hc
            refine gx_aload_n C dM_fitting_53 1 rfl rfl ?_
            refine gx_get C mo_this hi_M 11 (by decide) fl_M_32 rfl dM_fitting_54 ?_
            refine gx_iload_n C dM_fitting_57 4 rfl rfl ?_
            obtain ⟨hin, hs⟩ := hs
            refine gx_iald C ma_lengths hin dM_fitting_58 ?_
            refine gx_aload_n C dM_fitting_59 1 rfl rfl ?_
            refine gx_get C mo_this hi_M 11 (by decide) fl_M_32 rfl dM_fitting_60 ?_
            refine gx_iload_n C dM_fitting_63 3 rfl rfl ?_
            obtain ⟨hin, hs⟩ := hs
            refine gx_iald C ma_lengths hin dM_fitting_64 ?_
            obtain ⟨ht, hf⟩ := hs
            refine gx_icmp_ne C dM_fitting_65 85 rfl (fun hc => ?_) (fun hc => ?_)
            · have hs := ht hc
              refine gx_iinc (v0 := 1) (f := fun v => [(3, .int v), (4, .int y1), (0, .ref (o 0)), (1, .int v1), (2, .int v2)]) C dM_fitting_85 4 rfl (by decide) (by decide) (fun _ => rfl) (fun y5 ey5 => ?_)
              replace hs := hs y5 ey5
              refine gx_goto C dM_fitting_88 4 rfl ?_
              exact gx_sub [2, 3, 4, 0] rfl hs
            · have hs := hf hc
              refine gx_aload_n C dM_fitting_68 1 rfl rfl ?_
              refine gx_get C mo_this hi_M 12 (by decide) fl_M_35 rfl dM_fitting_69 ?_
              refine gx_iload_n C dM_fitting_72 4 rfl rfl ?_
              obtain ⟨hin, hs⟩ := hs
              refine gx_iald C ma_came hin dM_fitting_73 ?_
              refine gx_aload_n C dM_fitting_74 1 rfl rfl ?_
              refine gx_get C mo_this hi_M 12 (by decide) fl_M_35 rfl dM_fitting_75 ?_
              refine gx_iload_n C dM_fitting_78 3 rfl rfl ?_
              obtain ⟨hin, hs⟩ := hs
              refine gx_iald C ma_came hin dM_fitting_79 ?_
              obtain ⟨ht, hf⟩ := hs
              refine gx_icmp_le C dM_fitting_80 85 rfl (fun hc => ?_) (fun hc => ?_)
              · have hs := ht hc
                refine gx_iinc (v0 := 1) (f := fun v => [(3, .int v), (4, .int y1), (0, .ref (o 0)), (1, .int v1), (2, .int v2)]) C dM_fitting_85 4 rfl (by decide) (by decide) (fun _ => rfl) (fun y6 ey6 => ?_)
                replace hs := hs y6 ey6
                refine gx_goto C dM_fitting_88 4 rfl ?_
                exact gx_sub [2, 3, 4, 0] rfl hs
              · have hs := hf hc
                refine gx_iload_n C dM_fitting_83 4 rfl rfl ?_
                refine gx_istore_n (L' := [(2, .int v3), (4, .int y1), (0, .ref (o 0)), (1, .int v1), (3, .int v3)]) C dM_fitting_84 rfl (by decide) rfl ?_
                refine gx_iinc (v0 := 1) (f := fun v => [(3, .int v), (2, .int v3), (4, .int y1), (0, .ref (o 0)), (1, .int v1)]) C dM_fitting_85 4 rfl (by decide) (by decide) (fun _ => rfl) (fun y7 ey7 => ?_)
                replace hs := hs y7 ey7
                refine gx_goto C dM_fitting_88 4 rfl ?_
                exact gx_sub [3, 4, 1, 0] rfl hs
    · have hs := hf hc
      refine gx_iconst (v := 1) C dM_fitting_22 (by decide) ?_
      refine gx_goto C dM_fitting_23 27 rfl ?_
      refine gx_top (fun y8 ey8 => ?_)
      replace hs := hs y8 ey8
      refine gx_istore (L' := [(4, .int y8), (0, .ref (o 0)), (1, .int v1), (2, .int v2), (3, .int v3)]) C dM_fitting_27 (by decide) rfl ?_
      refine gx_iload C dM_fitting_29 0 rfl ?_
      obtain ⟨ht, hf⟩ := hs
      refine gx_if_eq C dM_fitting_31 85 rfl (fun hc => ?_) (fun hc => ?_)
      · have hs := ht hc
        refine gx_iinc (v0 := 1) (f := fun v => [(3, .int v), (4, .int y8), (0, .ref (o 0)), (1, .int v1), (2, .int v2)]) C dM_fitting_85 4 rfl (by decide) (by decide) (fun _ => rfl) (fun y9 ey9 => ?_)
        replace hs := hs y9 ey9
        refine gx_goto C dM_fitting_88 4 rfl ?_
        exact gx_sub [2, 3, 4, 0] rfl hs
      · have hs := hf hc
        refine gx_iload_n C dM_fitting_34 3 rfl rfl ?_
        obtain ⟨ht, hf⟩ := hs
        refine gx_if_lt C dM_fitting_35 83 rfl (fun hc => ?_) (fun hc => ?_)
        · have hs := ht hc
          refine gx_iload_n C dM_fitting_83 4 rfl rfl ?_
          refine gx_istore_n (L' := [(2, .int v3), (4, .int y8), (0, .ref (o 0)), (1, .int v1), (3, .int v3)]) C dM_fitting_84 rfl (by decide) rfl ?_
          refine gx_iinc (v0 := 1) (f := fun v => [(3, .int v), (2, .int v3), (4, .int y8), (0, .ref (o 0)), (1, .int v1)]) C dM_fitting_85 4 rfl (by decide) (by decide) (fun _ => rfl) (fun y10 ey10 => ?_)
          replace hs := hs y10 ey10
          refine gx_goto C dM_fitting_88 4 rfl ?_
          exact gx_sub [3, 4, 1, 0] rfl hs
        · have hs := hf hc
          refine gx_aload_n C dM_fitting_38 1 rfl rfl ?_
          refine gx_get C mo_this hi_M 11 (by decide) fl_M_32 rfl dM_fitting_39 ?_
          refine gx_iload_n C dM_fitting_42 4 rfl rfl ?_
          obtain ⟨hin, hs⟩ := hs
          refine gx_iald C ma_lengths hin dM_fitting_43 ?_
          refine gx_aload_n C dM_fitting_44 1 rfl rfl ?_
          refine gx_get C mo_this hi_M 11 (by decide) fl_M_32 rfl dM_fitting_45 ?_
          refine gx_iload_n C dM_fitting_48 3 rfl rfl ?_
          obtain ⟨hin, hs⟩ := hs
          refine gx_iald C ma_lengths hin dM_fitting_49 ?_
          obtain ⟨ht, hf⟩ := hs
          refine gx_icmp_lt C dM_fitting_50 83 rfl (fun hc => ?_) (fun hc => ?_)
          · have hs := ht hc
            refine gx_iload_n C dM_fitting_83 4 rfl rfl ?_
            refine gx_istore_n (L' := [(2, .int v3), (4, .int y8), (0, .ref (o 0)), (1, .int v1), (3, .int v3)]) C dM_fitting_84 rfl (by decide) rfl ?_
            refine gx_iinc (v0 := 1) (f := fun v => [(3, .int v), (2, .int v3), (4, .int y8), (0, .ref (o 0)), (1, .int v1)]) C dM_fitting_85 4 rfl (by decide) (by decide) (fun _ => rfl) (fun y11 ey11 => ?_)
            replace hs := hs y11 ey11
            refine gx_goto C dM_fitting_88 4 rfl ?_
            exact gx_sub [3, 4, 1, 0] rfl hs
          · have hs := hf hc
            refine gx_aload_n C dM_fitting_53 1 rfl rfl ?_
            refine gx_get C mo_this hi_M 11 (by decide) fl_M_32 rfl dM_fitting_54 ?_
            refine gx_iload_n C dM_fitting_57 4 rfl rfl ?_
            obtain ⟨hin, hs⟩ := hs
            refine gx_iald C ma_lengths hin dM_fitting_58 ?_
            refine gx_aload_n C dM_fitting_59 1 rfl rfl ?_
            refine gx_get C mo_this hi_M 11 (by decide) fl_M_32 rfl dM_fitting_60 ?_
            refine gx_iload_n C dM_fitting_63 3 rfl rfl ?_
            obtain ⟨hin, hs⟩ := hs
            refine gx_iald C ma_lengths hin dM_fitting_64 ?_
            obtain ⟨ht, hf⟩ := hs
            refine gx_icmp_ne C dM_fitting_65 85 rfl (fun hc => ?_) (fun hc => ?_)
            · have hs := ht hc
              refine gx_iinc (v0 := 1) (f := fun v => [(3, .int v), (4, .int y8), (0, .ref (o 0)), (1, .int v1), (2, .int v2)]) C dM_fitting_85 4 rfl (by decide) (by decide) (fun _ => rfl) (fun y12 ey12 => ?_)
              replace hs := hs y12 ey12
              refine gx_goto C dM_fitting_88 4 rfl ?_
              exact gx_sub [2, 3, 4, 0] rfl hs
            · have hs := hf hc
              refine gx_aload_n C dM_fitting_68 1 rfl rfl ?_
              refine gx_get C mo_this hi_M 12 (by decide) fl_M_35 rfl dM_fitting_69 ?_
              refine gx_iload_n C dM_fitting_72 4 rfl rfl ?_
              obtain ⟨hin, hs⟩ := hs
              refine gx_iald C ma_came hin dM_fitting_73 ?_
              refine gx_aload_n C dM_fitting_74 1 rfl rfl ?_
              refine gx_get C mo_this hi_M 12 (by decide) fl_M_35 rfl dM_fitting_75 ?_
              refine gx_iload_n C dM_fitting_78 3 rfl rfl ?_
              obtain ⟨hin, hs⟩ := hs
              refine gx_iald C ma_came hin dM_fitting_79 ?_
              obtain ⟨ht, hf⟩ := hs
              refine gx_icmp_le C dM_fitting_80 85 rfl (fun hc => ?_) (fun hc => ?_)
              · have hs := ht hc
                refine gx_iinc (v0 := 1) (f := fun v => [(3, .int v), (4, .int y8), (0, .ref (o 0)), (1, .int v1), (2, .int v2)]) C dM_fitting_85 4 rfl (by decide) (by decide) (fun _ => rfl) (fun y13 ey13 => ?_)
                replace hs := hs y13 ey13
                refine gx_goto C dM_fitting_88 4 rfl ?_
                exact gx_sub [2, 3, 4, 0] rfl hs
              · have hs := hf hc
                refine gx_iload_n C dM_fitting_83 4 rfl rfl ?_
                refine gx_istore_n (L' := [(2, .int v3), (4, .int y8), (0, .ref (o 0)), (1, .int v1), (3, .int v3)]) C dM_fitting_84 rfl (by decide) rfl ?_
                refine gx_iinc (v0 := 1) (f := fun v => [(3, .int v), (2, .int v3), (4, .int y8), (0, .ref (o 0)), (1, .int v1)]) C dM_fitting_85 4 rfl (by decide) (by decide) (fun _ => rfl) (fun y14 ey14 => ?_)
                replace hs := hs y14 ey14
                refine gx_goto C dM_fitting_88 4 rfl ?_
                exact gx_sub [3, 4, 1, 0] rfl hs
set_option maxHeartbeats 4000000 in
set_option maxRecDepth 100000 in
theorem mt_M_fitting (l : Launch) (dC : Nat → ClassId) (dI : Nat → Nat → Nat) (cI cZ : ClassId) (o : Nat → Nat) (v1 : Int32) (S : GS) (post : Int32 → GS → Prop) (h : wp_M_fitting [v1] S post) : MetI l yM_fitting (Cond.code yM_fitting cM_fitting 5 (some .int) :: wsA) ({ frames := 0, cells := 0, slots := 0, locals := 0 }) (dC, dI) gx_cl [(cI, .int), (cZ, .boolean)] (mw cI cZ o) [.ref (o 0), .int v1] S post := by
  refine gx_metI (by decide) wsA_good (Nat.le_of_ble_eq_true rfl) ?_
  intro p e s m args below meth c A C hr hlocks
  refine h (vh_M_fitting o (GV p l e ({ frames := 0, cells := 0, slots := 0, locals := 0 }) s m args below meth c (MQ below (va_Qi post (GB (mw cI cZ o) (dC, dI) gx_cl [(cI, .int), (cZ, .boolean)] A) A) args s 0 0 A) 5 (dC, dI) gx_cl A (mw cI cZ o))) (fun h S xs hs => ?_)
  unfold sp_M_fitting at hs
  split at hs
  · exact wk_M_fitting_0 C hr hlocks _ _ hs
  · exact wk_M_fitting_4 C hr hlocks _ _ _ _ hs
  · exact hs.elim
/-- CountedObjectsModel.pack()I: a step from head to head -/
def sp_M_pack (post : Int32 → GS → Prop) (V : Nat → GS → List Int32 → Prop) (h : Nat) (S : GS) (xs : List Int32) : Prop := match h, xs with
  | 0, [] => ∀ y1 : Int32, y1 = 0 → ∀ y2 : Int32, y2 = 0 → ∀ y3 : Int32, y3 = 1 → V 6 S [y1, y2, y3]
  | 6, [v1, v2, v3] => ((v3 = 0 → (∀ S1 : GS, S1 = gx_set 100 3 0 S → (((S1 100 1) ≤ v2 → post v1 S1) ∧ (¬ (S1 100 1) ≤ v2 → wp_M_give  [v2, (S1 100 1) - v2] S1 (fun S2 => post v1 S2))))) ∧ (¬ v3 = 0 → ∀ y4 : Int32, y4 = 0 → ∀ y5 : Int32, y5 = 1 → V 16 S [v1, v2, v3, y4, y5]))
  | 16, [v1, v2, v3, v4, v5] => (((S 100 2) < v5 → ((v4 ≤ 0 → ∀ y1 : Int32, y1 = 0 → ((y1 = 0 → V 6 S [v1, v2, y1]) ∧ (¬ y1 = 0 → (vp_in v4 41 ∧ ∀ y2 : Int32, y2 = S 2 (v4).toNatClampNeg → (vp_in v4 41 ∧ ∀ y3 : Int32, y3 = (S 3 (v4).toNatClampNeg) + 2 → ∀ y4 : Int32, y4 = 0 → V 116 S [v1, v2, y1, v4, y2, y3, y4]))))) ∧ (¬ v4 ≤ 0 → ∀ y5 : Int32, y5 = 1 → ((y5 = 0 → V 6 S [v1, v2, y5]) ∧ (¬ y5 = 0 → (vp_in v4 41 ∧ ∀ y6 : Int32, y6 = S 2 (v4).toNatClampNeg → (vp_in v4 41 ∧ ∀ y7 : Int32, y7 = (S 3 (v4).toNatClampNeg) + 2 → ∀ y8 : Int32, y8 = 0 → V 116 S [v1, v2, y5, v4, y6, y7, y8]))))))) ∧ (¬ (S 100 2) < v5 → (vp_in v5 41 ∧ (((S 1 (v5).toNatClampNeg) = 0 → (∀ y9 : Int32, y9 = v5 + 1 → V 16 S [v1, v2, v3, v4, y9])) ∧ (¬ (S 1 (v5).toNatClampNeg) = 0 → (vp_in v5 41 ∧ (((S 2 (v5).toNatClampNeg) < v2 → (∀ y10 : Int32, y10 = v5 + 1 → V 16 S [v1, v2, v3, v4, y10])) ∧ (¬ (S 2 (v5).toNatClampNeg) < v2 → ((v4 = 0 → (∀ y11 : Int32, y11 = v5 + 1 → V 16 S [v1, v2, v3, v5, y11])) ∧ (¬ v4 = 0 → (vp_in v5 41 ∧ (vp_in v4 41 ∧ (((S 2 (v4).toNatClampNeg) ≤ (S 2 (v5).toNatClampNeg) → (∀ y12 : Int32, y12 = v5 + 1 → V 16 S [v1, v2, v3, v4, y12])) ∧ (¬ (S 2 (v4).toNatClampNeg) ≤ (S 2 (v5).toNatClampNeg) → (∀ y13 : Int32, y13 = v5 + 1 → V 16 S [v1, v2, v3, v5, y13])))))))))))))))
  | 116, [v1, v2, v3, v4, v5, v6, v7] => ((v6 ≤ v7 → ((v5 = v2 → (vp_in v4 41 ∧ ∀ S1 : GS, S1 = gx_set 2 (v4).toNatClampNeg v2 S → ∀ y2 : Int32, y2 = v2 + v6 → V 6 S1 [v1, y2, v3])) ∧ (¬ v5 = v2 → ∀ y3 : Int32, y3 = v1 + 1 → (vp_in v4 41 ∧ ∀ S4 : GS, S4 = gx_set 2 (v4).toNatClampNeg v2 S → ∀ y5 : Int32, y5 = v2 + v6 → V 6 S4 [y3, y5, v3])))) ∧ (¬ v6 ≤ v7 → (vp_in (v5 + v7) 400 ∧ (vp_in (v2 + v7) 400 ∧ ∀ S6 : GS, S6 = gx_set 5 (v2 + v7).toNatClampNeg (S 5 (v5 + v7).toNatClampNeg) S → (∀ y7 : Int32, y7 = v7 + 1 → V 116 S6 [v1, v2, v3, v4, v5, v6, y7])))))
  | _, _ => False
def wp_M_pack (xs : List Int32) (S : GS) (post : Int32 → GS → Prop) : Prop := ∀ V : Nat → GS → List Int32 → Prop, (∀ h S xs, sp_M_pack post V h S xs → V h S xs) → V 0 S xs
def vh_M_pack (o : Nat → Nat) (G : GS → Nat → List (Nat × Value) → List Value → Prop) (h : Nat) (S : GS) (xs : List Int32) : Prop := match h, xs with
  | 0, [] => G S 0 [(0, .ref (o 0))] []
  | 6, [v1, v2, v3] => G S 6 [(0, .ref (o 0)), (1, .int v1), (2, .int v2), (3, .int v3)] []
  | 16, [v1, v2, v3, v4, v5] => G S 16 [(0, .ref (o 0)), (1, .int v1), (2, .int v2), (3, .int v3), (4, .int v4), (5, .int v5)] []
  | 116, [v1, v2, v3, v4, v5, v6, v7] => G S 116 [(0, .ref (o 0)), (1, .int v1), (2, .int v2), (3, .int v3), (4, .int v4), (5, .int v5), (6, .int v6), (7, .int v7)] []
  | _, _ => True
set_option maxHeartbeats 4000000 in
set_option maxRecDepth 100000 in
theorem wk_M_pack_0 {l : Launch} {dC : Nat → ClassId} {dI : Nat → Nat → Nat} {cI cZ : ClassId} {o : Nat → Nat}  {p : Program} {e : Env} {s : State} {m : MethodId} {args : Array Value} {below : List Frame} {meth : Method} {c : Code} {A : Nat → Prop} {post : Int32 → GS → Prop} (C : GC p s m args c cM_pack 8 RM wsA (dC, dI) gx_cl [(cI, .int), (cZ, .boolean)] A) (hr : meth.sig.returnType = (some .int)) (hlocks : meth.locks = false) (S : GS) (hs : sp_M_pack post (vh_M_pack o (GV p l e ({ frames := 1, cells := 0, slots := 0, locals := 22 }) s m args below meth c (MQ below (va_Qi post (GB (mw cI cZ o) (dC, dI) gx_cl [(cI, .int), (cZ, .boolean)] A) A) args s 0 0 A) 8 (dC, dI) gx_cl A (mw cI cZ o))) 0 S []) : GV p l e ({ frames := 1, cells := 0, slots := 0, locals := 22 }) s m args below meth c (MQ below (va_Qi post (GB (mw cI cZ o) (dC, dI) gx_cl [(cI, .int), (cZ, .boolean)] A) A) args s 0 0 A) 8 (dC, dI) gx_cl A (mw cI cZ o) S 0 [(0, .ref (o 0))] [] := by
  refine gx_iconst (v := 0) C dM_pack_0 (by decide) ?_
  refine gx_top (fun y1 ey1 => ?_)
  replace hs := hs y1 ey1
  refine gx_istore_n (L' := [(1, .int y1), (0, .ref (o 0))]) C dM_pack_1 rfl (by decide) rfl ?_
  refine gx_iconst (v := 0) C dM_pack_2 (by decide) ?_
  refine gx_top (fun y2 ey2 => ?_)
  replace hs := hs y2 ey2
  refine gx_istore_n (L' := [(2, .int y2), (1, .int y1), (0, .ref (o 0))]) C dM_pack_3 rfl (by decide) rfl ?_
  refine gx_iconst (v := 1) C dM_pack_4 (by decide) ?_
  refine gx_top (fun y3 ey3 => ?_)
  replace hs := hs y3 ey3
  refine gx_istore_n (L' := [(3, .int y3), (2, .int y2), (1, .int y1), (0, .ref (o 0))]) C dM_pack_5 rfl (by decide) rfl ?_
  exact gx_sub [3, 2, 1, 0] rfl hs
set_option maxHeartbeats 4000000 in
set_option maxRecDepth 100000 in
theorem wk_M_pack_6 {l : Launch} {dC : Nat → ClassId} {dI : Nat → Nat → Nat} {cI cZ : ClassId} {o : Nat → Nat}  {p : Program} {e : Env} {s : State} {m : MethodId} {args : Array Value} {below : List Frame} {meth : Method} {c : Code} {A : Nat → Prop} {post : Int32 → GS → Prop} (C : GC p s m args c cM_pack 8 RM wsA (dC, dI) gx_cl [(cI, .int), (cZ, .boolean)] A) (hr : meth.sig.returnType = (some .int)) (hlocks : meth.locks = false) (S : GS) (v1 : Int32) (v2 : Int32) (v3 : Int32) (hs : sp_M_pack post (vh_M_pack o (GV p l e ({ frames := 1, cells := 0, slots := 0, locals := 22 }) s m args below meth c (MQ below (va_Qi post (GB (mw cI cZ o) (dC, dI) gx_cl [(cI, .int), (cZ, .boolean)] A) A) args s 0 0 A) 8 (dC, dI) gx_cl A (mw cI cZ o))) 6 S [v1, v2, v3]) : GV p l e ({ frames := 1, cells := 0, slots := 0, locals := 22 }) s m args below meth c (MQ below (va_Qi post (GB (mw cI cZ o) (dC, dI) gx_cl [(cI, .int), (cZ, .boolean)] A) A) args s 0 0 A) 8 (dC, dI) gx_cl A (mw cI cZ o) S 6 [(0, .ref (o 0)), (1, .int v1), (2, .int v2), (3, .int v3)] [] := by
  refine gx_iload_n C dM_pack_6 3 rfl rfl ?_
  obtain ⟨ht, hf⟩ := hs
  refine gx_if_eq C dM_pack_7 178 rfl (fun hc => ?_) (fun hc => ?_)
  · have hs := ht hc
    refine gx_aload_n C dM_pack_178 0 rfl rfl ?_
    refine gx_iconst (v := 0) C dM_pack_179 (by decide) ?_
    refine gx_put C mo_this hi_M tyM tyM_ok nmM 9 (by decide) fl_M_68 rfl (by decide +kernel) (Nat.le_of_ble_eq_true rfl) (mp_frees _ _) dM_pack_180 (fun S1 eS1 => ?_)
    replace hs := hs S1 eS1
    refine gx_iload_n C dM_pack_183 2 rfl rfl ?_
    refine gx_aload_n C dM_pack_184 0 rfl rfl ?_
    refine gx_get C mo_this hi_M 1 (by decide) fl_M_47 rfl dM_pack_185 ?_
    obtain ⟨ht, hf⟩ := hs
    refine gx_icmp_ge C dM_pack_188 202 rfl (fun hc => ?_) (fun hc => ?_)
    · have hs := ht hc
      refine gx_iload_n C dM_pack_202 1 rfl rfl ?_
      exact gx_iret C hr hlocks dM_pack_203 hs
    · have hs := hf hc
      refine gx_aload_n C dM_pack_191 0 rfl rfl ?_
      refine gx_iload_n C dM_pack_192 2 rfl rfl ?_
      refine gx_aload_n C dM_pack_193 0 rfl rfl ?_
      refine gx_get C mo_this hi_M 1 (by decide) fl_M_47 rfl dM_pack_194 ?_
      refine gx_iload_n C dM_pack_197 2 rfl rfl ?_
      refine gx_isub C dM_pack_198 ?_
      refine gx_callv (As := [.int v2, .int ((S1 100 1) - v2)]) (rest := []) C (mt_M_give l dC dI cI cZ o  _ _ _ _ hs) (gx_cwV C 2 ln_M_54 im_M_give se_M_give in_CountedObjectsModel cd_M_give rfl rfl (by decide +kernel) ⟨Nat.le_of_ble_eq_true rfl, Nat.le_of_ble_eq_true rfl⟩) mo_this rfl (Nat.le_of_ble_eq_true rfl) dM_pack_199 (fun S1 => mw_ad _ S1) rfl (fun S2 hs => ?_)
      refine gx_iload_n C dM_pack_202 1 rfl rfl ?_
      exact gx_iret C hr hlocks dM_pack_203 hs
  · have hs := hf hc
    refine gx_iconst (v := 0) C dM_pack_10 (by decide) ?_
    refine gx_top (fun y4 ey4 => ?_)
    replace hs := hs y4 ey4
    refine gx_istore (L' := [(4, .int y4), (0, .ref (o 0)), (1, .int v1), (2, .int v2), (3, .int v3)]) C dM_pack_11 (by decide) rfl ?_
    refine gx_iconst (v := 1) C dM_pack_13 (by decide) ?_
    refine gx_top (fun y5 ey5 => ?_)
    replace hs := hs y5 ey5
    refine gx_istore (L' := [(5, .int y5), (4, .int y4), (0, .ref (o 0)), (1, .int v1), (2, .int v2), (3, .int v3)]) C dM_pack_14 (by decide) rfl ?_
    exact gx_sub [2, 3, 4, 5, 1, 0] rfl hs
set_option maxHeartbeats 4000000 in
set_option maxRecDepth 100000 in
theorem wk_M_pack_16 {l : Launch} {dC : Nat → ClassId} {dI : Nat → Nat → Nat} {cI cZ : ClassId} {o : Nat → Nat}  {p : Program} {e : Env} {s : State} {m : MethodId} {args : Array Value} {below : List Frame} {meth : Method} {c : Code} {A : Nat → Prop} {post : Int32 → GS → Prop} (C : GC p s m args c cM_pack 8 RM wsA (dC, dI) gx_cl [(cI, .int), (cZ, .boolean)] A) (hr : meth.sig.returnType = (some .int)) (hlocks : meth.locks = false) (S : GS) (v1 : Int32) (v2 : Int32) (v3 : Int32) (v4 : Int32) (v5 : Int32) (hs : sp_M_pack post (vh_M_pack o (GV p l e ({ frames := 1, cells := 0, slots := 0, locals := 22 }) s m args below meth c (MQ below (va_Qi post (GB (mw cI cZ o) (dC, dI) gx_cl [(cI, .int), (cZ, .boolean)] A) A) args s 0 0 A) 8 (dC, dI) gx_cl A (mw cI cZ o))) 16 S [v1, v2, v3, v4, v5]) : GV p l e ({ frames := 1, cells := 0, slots := 0, locals := 22 }) s m args below meth c (MQ below (va_Qi post (GB (mw cI cZ o) (dC, dI) gx_cl [(cI, .int), (cZ, .boolean)] A) A) args s 0 0 A) 8 (dC, dI) gx_cl A (mw cI cZ o) S 16 [(0, .ref (o 0)), (1, .int v1), (2, .int v2), (3, .int v3), (4, .int v4), (5, .int v5)] [] := by
  refine gx_iload C dM_pack_16 5 rfl ?_
  refine gx_aload_n C dM_pack_18 0 rfl rfl ?_
  refine gx_get C mo_this hi_M 2 (by decide) fl_M_51 rfl dM_pack_19 ?_
  obtain ⟨ht, hf⟩ := hs
  refine gx_icmp_gt C dM_pack_22 78 rfl (fun hc => ?_) (fun hc => ?_)
  · have hs := ht hc
    refine gx_iload C dM_pack_78 4 rfl ?_
    obtain ⟨ht, hf⟩ := hs
    refine gx_if_le C dM_pack_80 87 rfl (fun hc => ?_) (fun hc => ?_)
    · have hs := ht hc
      refine gx_iconst (v := 0) C dM_pack_87 (by decide) ?_
      refine gx_top (fun y1 ey1 => ?_)
      replace hs := hs y1 ey1
      refine gx_istore_n (L' := [(3, .int y1), (0, .ref (o 0)), (1, .int v1), (2, .int v2), (4, .int v4), (5, .int v5)]) C dM_pack_88 rfl (by decide) rfl ?_
      refine gx_iload_n C dM_pack_89 0 rfl rfl ?_
      obtain ⟨ht, hf⟩ := hs
      refine gx_if_eq C dM_pack_90 175 rfl (fun hc => ?_) (fun hc => ?_)
      · have hs := ht hc
        refine gx_goto C dM_pack_175 6 rfl ?_
        exact gx_sub [1, 2, 3, 0] rfl hs
      · have hs := hf hc
        refine gx_aload_n C dM_pack_93 1 rfl rfl ?_
        refine gx_get C mo_this hi_M 5 (by decide) fl_M_17 rfl dM_pack_94 ?_
        refine gx_iload C dM_pack_97 4 rfl ?_
        obtain ⟨hin, hs⟩ := hs
        refine gx_iald C ma_addresses hin dM_pack_99 ?_
        refine gx_top (fun y2 ey2 => ?_)
        replace hs := hs y2 ey2
        refine gx_istore (L' := [(5, .int y2), (3, .int y1), (0, .ref (o 0)), (1, .int v1), (2, .int v2), (4, .int v4)]) C dM_pack_100 (by decide) rfl ?_
        refine gx_aload_n C dM_pack_102 2 rfl rfl ?_
        refine gx_get C mo_this hi_M 6 (by decide) fl_M_20 rfl dM_pack_103 ?_
        refine gx_iload C dM_pack_106 5 rfl ?_
        obtain ⟨hin, hs⟩ := hs
        refine gx_iald C ma_sizes hin dM_pack_108 ?_
        refine gx_iconst (v := 2) C dM_pack_109 (by decide) ?_
        refine gx_iadd C dM_pack_110 ?_
        refine gx_top (fun y3 ey3 => ?_)
        replace hs := hs y3 ey3
        refine gx_istore (L' := [(6, .int y3), (5, .int y2), (3, .int y1), (0, .ref (o 0)), (1, .int v1), (2, .int v2), (4, .int v4)]) C dM_pack_111 (by decide) rfl ?_
        refine gx_iconst (v := 0) C dM_pack_113 (by decide) ?_
        refine gx_top (fun y4 ey4 => ?_)
        replace hs := hs y4 ey4
        refine gx_istore (L' := [(7, .int y4), (6, .int y3), (5, .int y2), (3, .int y1), (0, .ref (o 0)), (1, .int v1), (2, .int v2), (4, .int v4)]) C dM_pack_114 (by decide) rfl ?_
        exact gx_sub [4, 5, 6, 3, 7, 2, 1, 0] rfl hs
    · have hs := hf hc
      refine gx_iconst (v := 1) C dM_pack_83 (by decide) ?_
      refine gx_goto C dM_pack_84 88 rfl ?_
      refine gx_top (fun y5 ey5 => ?_)
      replace hs := hs y5 ey5
      refine gx_istore_n (L' := [(3, .int y5), (0, .ref (o 0)), (1, .int v1), (2, .int v2), (4, .int v4), (5, .int v5)]) C dM_pack_88 rfl (by decide) rfl ?_
      refine gx_iload_n C dM_pack_89 0 rfl rfl ?_
      obtain ⟨ht, hf⟩ := hs
      refine gx_if_eq C dM_pack_90 175 rfl (fun hc => ?_) (fun hc => ?_)
      · have hs := ht hc
        refine gx_goto C dM_pack_175 6 rfl ?_
        exact gx_sub [1, 2, 3, 0] rfl hs
      · have hs := hf hc
        refine gx_aload_n C dM_pack_93 1 rfl rfl ?_
        refine gx_get C mo_this hi_M 5 (by decide) fl_M_17 rfl dM_pack_94 ?_
        refine gx_iload C dM_pack_97 4 rfl ?_
        obtain ⟨hin, hs⟩ := hs
        refine gx_iald C ma_addresses hin dM_pack_99 ?_
        refine gx_top (fun y6 ey6 => ?_)
        replace hs := hs y6 ey6
        refine gx_istore (L' := [(5, .int y6), (3, .int y5), (0, .ref (o 0)), (1, .int v1), (2, .int v2), (4, .int v4)]) C dM_pack_100 (by decide) rfl ?_
        refine gx_aload_n C dM_pack_102 2 rfl rfl ?_
        refine gx_get C mo_this hi_M 6 (by decide) fl_M_20 rfl dM_pack_103 ?_
        refine gx_iload C dM_pack_106 5 rfl ?_
        obtain ⟨hin, hs⟩ := hs
        refine gx_iald C ma_sizes hin dM_pack_108 ?_
        refine gx_iconst (v := 2) C dM_pack_109 (by decide) ?_
        refine gx_iadd C dM_pack_110 ?_
        refine gx_top (fun y7 ey7 => ?_)
        replace hs := hs y7 ey7
        refine gx_istore (L' := [(6, .int y7), (5, .int y6), (3, .int y5), (0, .ref (o 0)), (1, .int v1), (2, .int v2), (4, .int v4)]) C dM_pack_111 (by decide) rfl ?_
        refine gx_iconst (v := 0) C dM_pack_113 (by decide) ?_
        refine gx_top (fun y8 ey8 => ?_)
        replace hs := hs y8 ey8
        refine gx_istore (L' := [(7, .int y8), (6, .int y7), (5, .int y6), (3, .int y5), (0, .ref (o 0)), (1, .int v1), (2, .int v2), (4, .int v4)]) C dM_pack_114 (by decide) rfl ?_
        exact gx_sub [4, 5, 6, 3, 7, 2, 1, 0] rfl hs
  · have hs := hf hc
    refine gx_aload_n C dM_pack_25 0 rfl rfl ?_
    refine gx_get C mo_this hi_M 4 (by decide) fl_M_13 rfl dM_pack_26 ?_
    refine gx_iload C dM_pack_29 5 rfl ?_
    obtain ⟨hin, hs⟩ := hs
    refine gx_zald C ma_lives hin dM_pack_31 ?_
    obtain ⟨ht, hf⟩ := hs
    refine gx_if_eq C dM_pack_32 72 rfl (fun hc => ?_) (fun hc => ?_)
    · have hs := ht hc
      refine gx_iinc (v0 := 1) (f := fun v => [(5, .int v), (0, .ref (o 0)), (1, .int v1), (2, .int v2), (3, .int v3), (4, .int v4)]) C dM_pack_72 5 rfl (by decide) (by decide) (fun _ => rfl) (fun y9 ey9 => ?_)
      replace hs := hs y9 ey9
      refine gx_goto C dM_pack_75 16 rfl ?_
      exact gx_sub [1, 2, 3, 4, 5, 0] rfl hs
    · have hs := hf hc
      refine gx_aload_n C dM_pack_35 0 rfl rfl ?_
      refine gx_get C mo_this hi_M 5 (by decide) fl_M_17 rfl dM_pack_36 ?_
      refine gx_iload C dM_pack_39 5 rfl ?_
      obtain ⟨hin, hs⟩ := hs
      refine gx_iald C ma_addresses hin dM_pack_41 ?_
      refine gx_iload_n C dM_pack_42 2 rfl rfl ?_
      obtain ⟨ht, hf⟩ := hs
      refine gx_icmp_lt C dM_pack_43 72 rfl (fun hc => ?_) (fun hc => ?_)
      · have hs := ht hc
        refine gx_iinc (v0 := 1) (f := fun v => [(5, .int v), (0, .ref (o 0)), (1, .int v1), (2, .int v2), (3, .int v3), (4, .int v4)]) C dM_pack_72 5 rfl (by decide) (by decide) (fun _ => rfl) (fun y10 ey10 => ?_)
        replace hs := hs y10 ey10
        refine gx_goto C dM_pack_75 16 rfl ?_
        exact gx_sub [1, 2, 3, 4, 5, 0] rfl hs
      · have hs := hf hc
        refine gx_iload C dM_pack_46 4 rfl ?_
        obtain ⟨ht, hf⟩ := hs
        refine gx_if_eq C dM_pack_48 68 rfl (fun hc => ?_) (fun hc => ?_)
        · have hs := ht hc
          refine gx_iload C dM_pack_68 5 rfl ?_
          refine gx_istore (L' := [(4, .int v5), (0, .ref (o 0)), (1, .int v1), (2, .int v2), (3, .int v3), (5, .int v5)]) C dM_pack_70 (by decide) rfl ?_
          refine gx_iinc (v0 := 1) (f := fun v => [(5, .int v), (4, .int v5), (0, .ref (o 0)), (1, .int v1), (2, .int v2), (3, .int v3)]) C dM_pack_72 5 rfl (by decide) (by decide) (fun _ => rfl) (fun y11 ey11 => ?_)
          replace hs := hs y11 ey11
          refine gx_goto C dM_pack_75 16 rfl ?_
          exact gx_sub [2, 3, 4, 5, 1, 0] rfl hs
        · have hs := hf hc
          refine gx_aload_n C dM_pack_51 0 rfl rfl ?_
          refine gx_get C mo_this hi_M 5 (by decide) fl_M_17 rfl dM_pack_52 ?_
          refine gx_iload C dM_pack_55 5 rfl ?_
          obtain ⟨hin, hs⟩ := hs
          refine gx_iald C ma_addresses hin dM_pack_57 ?_
          refine gx_aload_n C dM_pack_58 0 rfl rfl ?_
          refine gx_get C mo_this hi_M 5 (by decide) fl_M_17 rfl dM_pack_59 ?_
          refine gx_iload C dM_pack_62 4 rfl ?_
          obtain ⟨hin, hs⟩ := hs
          refine gx_iald C ma_addresses hin dM_pack_64 ?_
          obtain ⟨ht, hf⟩ := hs
          refine gx_icmp_ge C dM_pack_65 72 rfl (fun hc => ?_) (fun hc => ?_)
          · have hs := ht hc
            refine gx_iinc (v0 := 1) (f := fun v => [(5, .int v), (0, .ref (o 0)), (1, .int v1), (2, .int v2), (3, .int v3), (4, .int v4)]) C dM_pack_72 5 rfl (by decide) (by decide) (fun _ => rfl) (fun y12 ey12 => ?_)
            replace hs := hs y12 ey12
            refine gx_goto C dM_pack_75 16 rfl ?_
            exact gx_sub [1, 2, 3, 4, 5, 0] rfl hs
          · have hs := hf hc
            refine gx_iload C dM_pack_68 5 rfl ?_
            refine gx_istore (L' := [(4, .int v5), (0, .ref (o 0)), (1, .int v1), (2, .int v2), (3, .int v3), (5, .int v5)]) C dM_pack_70 (by decide) rfl ?_
            refine gx_iinc (v0 := 1) (f := fun v => [(5, .int v), (4, .int v5), (0, .ref (o 0)), (1, .int v1), (2, .int v2), (3, .int v3)]) C dM_pack_72 5 rfl (by decide) (by decide) (fun _ => rfl) (fun y13 ey13 => ?_)
            replace hs := hs y13 ey13
            refine gx_goto C dM_pack_75 16 rfl ?_
            exact gx_sub [2, 3, 4, 5, 1, 0] rfl hs
set_option maxHeartbeats 4000000 in
set_option maxRecDepth 100000 in
theorem wk_M_pack_116 {l : Launch} {dC : Nat → ClassId} {dI : Nat → Nat → Nat} {cI cZ : ClassId} {o : Nat → Nat}  {p : Program} {e : Env} {s : State} {m : MethodId} {args : Array Value} {below : List Frame} {meth : Method} {c : Code} {A : Nat → Prop} {post : Int32 → GS → Prop} (C : GC p s m args c cM_pack 8 RM wsA (dC, dI) gx_cl [(cI, .int), (cZ, .boolean)] A) (hr : meth.sig.returnType = (some .int)) (hlocks : meth.locks = false) (S : GS) (v1 : Int32) (v2 : Int32) (v3 : Int32) (v4 : Int32) (v5 : Int32) (v6 : Int32) (v7 : Int32) (hs : sp_M_pack post (vh_M_pack o (GV p l e ({ frames := 1, cells := 0, slots := 0, locals := 22 }) s m args below meth c (MQ below (va_Qi post (GB (mw cI cZ o) (dC, dI) gx_cl [(cI, .int), (cZ, .boolean)] A) A) args s 0 0 A) 8 (dC, dI) gx_cl A (mw cI cZ o))) 116 S [v1, v2, v3, v4, v5, v6, v7]) : GV p l e ({ frames := 1, cells := 0, slots := 0, locals := 22 }) s m args below meth c (MQ below (va_Qi post (GB (mw cI cZ o) (dC, dI) gx_cl [(cI, .int), (cZ, .boolean)] A) A) args s 0 0 A) 8 (dC, dI) gx_cl A (mw cI cZ o) S 116 [(0, .ref (o 0)), (1, .int v1), (2, .int v2), (3, .int v3), (4, .int v4), (5, .int v5), (6, .int v6), (7, .int v7)] [] := by
  refine gx_iload C dM_pack_116 7 rfl ?_
  refine gx_iload C dM_pack_118 6 rfl ?_
  obtain ⟨ht, hf⟩ := hs
  refine gx_icmp_ge C dM_pack_120 148 rfl (fun hc => ?_) (fun hc => ?_)
  · have hs := ht hc
    refine gx_iload C dM_pack_148 5 rfl ?_
    refine gx_iload_n C dM_pack_150 2 rfl rfl ?_
    obtain ⟨ht, hf⟩ := hs
    refine gx_icmp_eq C dM_pack_151 160 rfl (fun hc => ?_) (fun hc => ?_)
    · have hs := ht hc
      refine gx_iload_n C dM_pack_160 1 rfl rfl ?_
      refine gx_istore_n (L' := [(1, .int v1), (0, .ref (o 0)), (2, .int v2), (3, .int v3), (4, .int v4), (5, .int v5), (6, .int v6), (7, .int v7)]) C dM_pack_161 rfl (by decide) rfl ?_
      refine gx_aload_n C dM_pack_162 1 rfl rfl ?_
      refine gx_get C mo_this hi_M 5 (by decide) fl_M_17 rfl dM_pack_163 ?_
      refine gx_iload C dM_pack_166 4 rfl ?_
      refine gx_iload_n C dM_pack_168 2 rfl rfl ?_
      obtain ⟨hin, hs⟩ := hs
      refine gx_iast C ma_addresses hin dM_pack_169 (fun S1 eS1 => ?_)
      replace hs := hs S1 eS1
      refine gx_iload_n C dM_pack_170 2 rfl rfl ?_
      refine gx_iload C dM_pack_171 6 rfl ?_
      refine gx_iadd C dM_pack_173 ?_
      refine gx_top (fun y2 ey2 => ?_)
      replace hs := hs y2 ey2
      refine gx_istore_n (L' := [(2, .int y2), (1, .int v1), (0, .ref (o 0)), (3, .int v3), (4, .int v4), (5, .int v5), (6, .int v6), (7, .int v7)]) C dM_pack_174 rfl (by decide) rfl ?_
      refine gx_goto C dM_pack_175 6 rfl ?_
      exact gx_sub [2, 1, 0, 3] rfl hs
    · have hs := hf hc
      refine gx_iload_n C dM_pack_154 1 rfl rfl ?_
      refine gx_iconst (v := 1) C dM_pack_155 (by decide) ?_
      refine gx_iadd C dM_pack_156 ?_
      refine gx_goto C dM_pack_157 161 rfl ?_
      refine gx_top (fun y3 ey3 => ?_)
      replace hs := hs y3 ey3
      refine gx_istore_n (L' := [(1, .int y3), (0, .ref (o 0)), (2, .int v2), (3, .int v3), (4, .int v4), (5, .int v5), (6, .int v6), (7, .int v7)]) C dM_pack_161 rfl (by decide) rfl ?_
      refine gx_aload_n C dM_pack_162 1 rfl rfl ?_
      refine gx_get C mo_this hi_M 5 (by decide) fl_M_17 rfl dM_pack_163 ?_
      refine gx_iload C dM_pack_166 4 rfl ?_
      refine gx_iload_n C dM_pack_168 2 rfl rfl ?_
      obtain ⟨hin, hs⟩ := hs
      refine gx_iast C ma_addresses hin dM_pack_169 (fun S4 eS4 => ?_)
      replace hs := hs S4 eS4
      refine gx_iload_n C dM_pack_170 2 rfl rfl ?_
      refine gx_iload C dM_pack_171 6 rfl ?_
      refine gx_iadd C dM_pack_173 ?_
      refine gx_top (fun y5 ey5 => ?_)
      replace hs := hs y5 ey5
      refine gx_istore_n (L' := [(2, .int y5), (1, .int y3), (0, .ref (o 0)), (3, .int v3), (4, .int v4), (5, .int v5), (6, .int v6), (7, .int v7)]) C dM_pack_174 rfl (by decide) rfl ?_
      refine gx_goto C dM_pack_175 6 rfl ?_
      exact gx_sub [2, 1, 0, 3] rfl hs
  · have hs := hf hc
    refine gx_aload_n C dM_pack_123 0 rfl rfl ?_
    refine gx_get C mo_this hi_M 8 (by decide) fl_M_26 rfl dM_pack_124 ?_
    refine gx_iload_n C dM_pack_127 2 rfl rfl ?_
    refine gx_iload C dM_pack_128 7 rfl ?_
    refine gx_iadd C dM_pack_130 ?_
    refine gx_aload_n C dM_pack_131 0 rfl rfl ?_
    refine gx_get C mo_this hi_M 8 (by decide) fl_M_26 rfl dM_pack_132 ?_
    refine gx_iload C dM_pack_135 5 rfl ?_
    refine gx_iload C dM_pack_137 7 rfl ?_
    refine gx_iadd C dM_pack_139 ?_
    obtain ⟨hin, hs⟩ := hs
    refine gx_iald C ma_word hin dM_pack_140 ?_
    obtain ⟨hin, hs⟩ := hs
    refine gx_iast C ma_word hin dM_pack_141 (fun S6 eS6 => ?_)
    replace hs := hs S6 eS6
    refine gx_iinc (v0 := 1) (f := fun v => [(7, .int v), (0, .ref (o 0)), (1, .int v1), (2, .int v2), (3, .int v3), (4, .int v4), (5, .int v5), (6, .int v6)]) C dM_pack_142 7 rfl (by decide) (by decide) (fun _ => rfl) (fun y7 ey7 => ?_)
    replace hs := hs y7 ey7
    refine gx_goto C dM_pack_145 116 rfl ?_
    exact gx_sub [1, 2, 3, 4, 5, 6, 7, 0] rfl hs
set_option maxHeartbeats 4000000 in
set_option maxRecDepth 100000 in
theorem mt_M_pack (l : Launch) (dC : Nat → ClassId) (dI : Nat → Nat → Nat) (cI cZ : ClassId) (o : Nat → Nat) (S : GS) (post : Int32 → GS → Prop) (h : wp_M_pack [] S post) : MetI l yM_pack (Cond.code yM_pack cM_pack 8 (some .int) :: wsA) ({ frames := 1, cells := 0, slots := 0, locals := 22 }) (dC, dI) gx_cl [(cI, .int), (cZ, .boolean)] (mw cI cZ o) [.ref (o 0)] S post := by
  refine gx_metI (by decide) wsA_good (Nat.le_of_ble_eq_true rfl) ?_
  intro p e s m args below meth c A C hr hlocks
  refine h (vh_M_pack o (GV p l e ({ frames := 1, cells := 0, slots := 0, locals := 22 }) s m args below meth c (MQ below (va_Qi post (GB (mw cI cZ o) (dC, dI) gx_cl [(cI, .int), (cZ, .boolean)] A) A) args s 0 0 A) 8 (dC, dI) gx_cl A (mw cI cZ o))) (fun h S xs hs => ?_)
  unfold sp_M_pack at hs
  split at hs
  · exact wk_M_pack_0 C hr hlocks _ hs
  · exact wk_M_pack_6 C hr hlocks _ _ _ _ hs
  · exact wk_M_pack_16 C hr hlocks _ _ _ _ _ _ hs
  · exact wk_M_pack_116 C hr hlocks _ _ _ _ _ _ _ _ hs
  · exact hs.elim
/-- CountedObjectsModel.place(I)I: a step from head to head -/
def sp_M_place (post : Int32 → GS → Prop) (V : Nat → GS → List Int32 → Prop) (h : Nat) (S : GS) (xs : List Int32) : Prop := match h, xs with
  | 0, [v1] => wp_M_fitting  [v1] S (fun r2 S1 => ((0 ≤ r2 → ((0 ≤ r2 → (vp_in r2 400 ∧ ∀ y3 : Int32, y3 = S1 6 (r2).toNatClampNeg → (vp_in r2 400 ∧ ∀ y4 : Int32, y4 = (S1 7 (r2).toNatClampNeg) - v1 → (∀ S5 : GS, S5 = gx_set 100 3 ((S1 100 3) - 1) S1 → (vp_in (S5 100 3) 400 ∧ (vp_in r2 400 ∧ ∀ S6 : GS, S6 = gx_set 6 (r2).toNatClampNeg (S5 6 (S5 100 3).toNatClampNeg) S5 → (vp_in (S6 100 3) 400 ∧ (vp_in r2 400 ∧ ∀ S7 : GS, S7 = gx_set 7 (r2).toNatClampNeg (S6 7 (S6 100 3).toNatClampNeg) S6 → (vp_in (S7 100 3) 400 ∧ (vp_in r2 400 ∧ ∀ S8 : GS, S8 = gx_set 8 (r2).toNatClampNeg (S7 8 (S7 100 3).toNatClampNeg) S7 → ((y4 ≤ 0 → post y3 S8) ∧ (¬ y4 ≤ 0 → wp_M_give  [y3 + v1, y4] S8 (fun S9 => post y3 S9))))))))))))) ∧ (¬ 0 ≤ r2 → post (-1) S1))) ∧ (¬ 0 ≤ r2 → wp_M_freeWords  [] S1 (fun r12 S11 => ((r12 < v1 → ((0 ≤ r2 → (vp_in r2 400 ∧ ∀ y13 : Int32, y13 = S11 6 (r2).toNatClampNeg → (vp_in r2 400 ∧ ∀ y14 : Int32, y14 = (S11 7 (r2).toNatClampNeg) - v1 → (∀ S15 : GS, S15 = gx_set 100 3 ((S11 100 3) - 1) S11 → (vp_in (S15 100 3) 400 ∧ (vp_in r2 400 ∧ ∀ S16 : GS, S16 = gx_set 6 (r2).toNatClampNeg (S15 6 (S15 100 3).toNatClampNeg) S15 → (vp_in (S16 100 3) 400 ∧ (vp_in r2 400 ∧ ∀ S17 : GS, S17 = gx_set 7 (r2).toNatClampNeg (S16 7 (S16 100 3).toNatClampNeg) S16 → (vp_in (S17 100 3) 400 ∧ (vp_in r2 400 ∧ ∀ S18 : GS, S18 = gx_set 8 (r2).toNatClampNeg (S17 8 (S17 100 3).toNatClampNeg) S17 → ((y14 ≤ 0 → post y13 S18) ∧ (¬ y14 ≤ 0 → wp_M_give  [y13 + v1, y14] S18 (fun S19 => post y13 S19))))))))))))) ∧ (¬ 0 ≤ r2 → post (-1) S11))) ∧ (¬ r12 < v1 → wp_M_pack  [] S11 (fun r22 S21 => wp_M_fitting  [v1] S21 (fun r24 S23 => ((0 ≤ r24 → (vp_in r24 400 ∧ ∀ y25 : Int32, y25 = S23 6 (r24).toNatClampNeg → (vp_in r24 400 ∧ ∀ y26 : Int32, y26 = (S23 7 (r24).toNatClampNeg) - v1 → (∀ S27 : GS, S27 = gx_set 100 3 ((S23 100 3) - 1) S23 → (vp_in (S27 100 3) 400 ∧ (vp_in r24 400 ∧ ∀ S28 : GS, S28 = gx_set 6 (r24).toNatClampNeg (S27 6 (S27 100 3).toNatClampNeg) S27 → (vp_in (S28 100 3) 400 ∧ (vp_in r24 400 ∧ ∀ S29 : GS, S29 = gx_set 7 (r24).toNatClampNeg (S28 7 (S28 100 3).toNatClampNeg) S28 → (vp_in (S29 100 3) 400 ∧ (vp_in r24 400 ∧ ∀ S30 : GS, S30 = gx_set 8 (r24).toNatClampNeg (S29 8 (S29 100 3).toNatClampNeg) S29 → ((y26 ≤ 0 → post y25 S30) ∧ (¬ y26 ≤ 0 → wp_M_give  [y25 + v1, y26] S30 (fun S31 => post y25 S31))))))))))))) ∧ (¬ 0 ≤ r24 → post (-1) S23))))))))))
  | _, _ => False
def wp_M_place (xs : List Int32) (S : GS) (post : Int32 → GS → Prop) : Prop := ∀ V : Nat → GS → List Int32 → Prop, (∀ h S xs, sp_M_place post V h S xs → V h S xs) → V 0 S xs
def vh_M_place (o : Nat → Nat) (G : GS → Nat → List (Nat × Value) → List Value → Prop) (h : Nat) (S : GS) (xs : List Int32) : Prop := match h, xs with
  | 0, [v1] => G S 0 [(0, .ref (o 0)), (1, .int v1)] []
  | _, _ => True
set_option maxHeartbeats 4000000 in
set_option maxRecDepth 100000 in
theorem wk_M_place_0 {l : Launch} {dC : Nat → ClassId} {dI : Nat → Nat → Nat} {cI cZ : ClassId} {o : Nat → Nat}  {p : Program} {e : Env} {s : State} {m : MethodId} {args : Array Value} {below : List Frame} {meth : Method} {c : Code} {A : Nat → Prop} {post : Int32 → GS → Prop} (C : GC p s m args c cM_place 5 RM wsA (dC, dI) gx_cl [(cI, .int), (cZ, .boolean)] A) (hr : meth.sig.returnType = (some .int)) (hlocks : meth.locks = false) (S : GS) (v1 : Int32) (hs : sp_M_place post (vh_M_place o (GV p l e ({ frames := 2, cells := 0, slots := 0, locals := 49 }) s m args below meth c (MQ below (va_Qi post (GB (mw cI cZ o) (dC, dI) gx_cl [(cI, .int), (cZ, .boolean)] A) A) args s 0 0 A) 5 (dC, dI) gx_cl A (mw cI cZ o))) 0 S [v1]) : GV p l e ({ frames := 2, cells := 0, slots := 0, locals := 49 }) s m args below meth c (MQ below (va_Qi post (GB (mw cI cZ o) (dC, dI) gx_cl [(cI, .int), (cZ, .boolean)] A) A) args s 0 0 A) 5 (dC, dI) gx_cl A (mw cI cZ o) S 0 [(0, .ref (o 0)), (1, .int v1)] [] := by
  refine gx_aload_n C dM_place_0 0 rfl rfl ?_
  refine gx_iload_n C dM_place_1 1 rfl rfl ?_
  refine gx_calli (As := [.int v1]) (rest := []) C (mt_M_fitting l dC dI cI cZ o  _ _ _ hs) (gx_cwV C 1 ln_M_74 im_M_fitting se_M_fitting in_CountedObjectsModel cd_M_fitting rfl rfl (by decide +kernel) ⟨Nat.le_of_ble_eq_true rfl, Nat.le_of_ble_eq_true rfl⟩) mo_this rfl (Nat.le_of_ble_eq_true rfl) dM_place_2 (fun S1 => mw_ad _ S1) rfl (fun r2 S1 hs => ?_)
  refine gx_istore_n (L' := [(2, .int r2), (0, .ref (o 0)), (1, .int v1)]) C dM_place_5 rfl (by decide) rfl ?_
  refine gx_iload_n C dM_place_6 0 rfl rfl ?_
  obtain ⟨ht, hf⟩ := hs
  refine gx_if_ge C dM_place_7 29 rfl (fun hc => ?_) (fun hc => ?_)
  · have hs := ht hc
    refine gx_iload_n C dM_place_29 0 rfl rfl ?_
    obtain ⟨ht, hf⟩ := hs
    refine gx_if_ge C dM_place_30 35 rfl (fun hc => ?_) (fun hc => ?_)
    · have hs := ht hc
      refine gx_aload_n C dM_place_35 1 rfl rfl ?_
      refine gx_get C mo_this hi_M 10 (by decide) fl_M_29 rfl dM_place_36 ?_
      refine gx_iload_n C dM_place_39 0 rfl rfl ?_
      obtain ⟨hin, hs⟩ := hs
      refine gx_iald C ma_begins hin dM_place_40 ?_
      refine gx_top (fun y3 ey3 => ?_)
      replace hs := hs y3 ey3
      refine gx_istore_n (L' := [(3, .int y3), (2, .int r2), (0, .ref (o 0)), (1, .int v1)]) C dM_place_41 rfl (by decide) rfl ?_
      refine gx_aload_n C dM_place_42 2 rfl rfl ?_
      refine gx_get C mo_this hi_M 11 (by decide) fl_M_32 rfl dM_place_43 ?_
      refine gx_iload_n C dM_place_46 1 rfl rfl ?_
      obtain ⟨hin, hs⟩ := hs
      refine gx_iald C ma_lengths hin dM_place_47 ?_
      refine gx_iload_n C dM_place_48 3 rfl rfl ?_
      refine gx_isub C dM_place_49 ?_
      refine gx_top (fun y4 ey4 => ?_)
      replace hs := hs y4 ey4
      refine gx_istore (L' := [(4, .int y4), (3, .int y3), (2, .int r2), (0, .ref (o 0)), (1, .int v1)]) C dM_place_50 (by decide) rfl ?_
      refine gx_aload_n C dM_place_52 3 rfl rfl ?_
      refine gx_dup C dM_place_53 rfl ?_
      refine gx_get C mo_this hi_M 9 (by decide) fl_M_68 rfl dM_place_54 ?_
      refine gx_iconst (v := 1) C dM_place_57 (by decide) ?_
      refine gx_isub C dM_place_58 ?_
      refine gx_put C mo_this hi_M tyM tyM_ok nmM 9 (by decide) fl_M_68 rfl (by decide +kernel) (Nat.le_of_ble_eq_true rfl) (mp_frees _ _) dM_place_59 (fun S5 eS5 => ?_)
      replace hs := hs S5 eS5
      refine gx_aload_n C dM_place_62 3 rfl rfl ?_
      refine gx_get C mo_this hi_M 10 (by decide) fl_M_29 rfl dM_place_63 ?_
      refine gx_iload_n C dM_place_66 2 rfl rfl ?_
      refine gx_aload_n C dM_place_67 3 rfl rfl ?_
      refine gx_get C mo_this hi_M 10 (by decide) fl_M_29 rfl dM_place_68 ?_
      refine gx_aload_n C dM_place_71 3 rfl rfl ?_
      refine gx_get C mo_this hi_M 9 (by decide) fl_M_68 rfl dM_place_72 ?_
      obtain ⟨hin, hs⟩ := hs
      refine gx_iald C ma_begins hin dM_place_75 ?_
      obtain ⟨hin, hs⟩ := hs
      refine gx_iast C ma_begins hin dM_place_76 (fun S6 eS6 => ?_)
      replace hs := hs S6 eS6
      refine gx_aload_n C dM_place_77 3 rfl rfl ?_
      refine gx_get C mo_this hi_M 11 (by decide) fl_M_32 rfl dM_place_78 ?_
      refine gx_iload_n C dM_place_81 2 rfl rfl ?_
      refine gx_aload_n C dM_place_82 3 rfl rfl ?_
      refine gx_get C mo_this hi_M 11 (by decide) fl_M_32 rfl dM_place_83 ?_
      refine gx_aload_n C dM_place_86 3 rfl rfl ?_
      refine gx_get C mo_this hi_M 9 (by decide) fl_M_68 rfl dM_place_87 ?_
      obtain ⟨hin, hs⟩ := hs
      refine gx_iald C ma_lengths hin dM_place_90 ?_
      obtain ⟨hin, hs⟩ := hs
      refine gx_iast C ma_lengths hin dM_place_91 (fun S7 eS7 => ?_)
      replace hs := hs S7 eS7
      refine gx_aload_n C dM_place_92 3 rfl rfl ?_
      refine gx_get C mo_this hi_M 12 (by decide) fl_M_35 rfl dM_place_93 ?_
      refine gx_iload_n C dM_place_96 2 rfl rfl ?_
      refine gx_aload_n C dM_place_97 3 rfl rfl ?_
      refine gx_get C mo_this hi_M 12 (by decide) fl_M_35 rfl dM_place_98 ?_
      refine gx_aload_n C dM_place_101 3 rfl rfl ?_
      refine gx_get C mo_this hi_M 9 (by decide) fl_M_68 rfl dM_place_102 ?_
      obtain ⟨hin, hs⟩ := hs
      refine gx_iald C ma_came hin dM_place_105 ?_
      obtain ⟨hin, hs⟩ := hs
      refine gx_iast C ma_came hin dM_place_106 (fun S8 eS8 => ?_)
      replace hs := hs S8 eS8
      refine gx_iload C dM_place_107 0 rfl ?_
      obtain ⟨ht, hf⟩ := hs
      refine gx_if_le C dM_place_109 121 rfl (fun hc => ?_) (fun hc => ?_)
      · have hs := ht hc
        refine gx_iload_n C dM_place_121 1 rfl rfl ?_
        exact gx_iret C hr hlocks dM_place_122 hs
      · have hs := hf hc
        refine gx_aload_n C dM_place_112 3 rfl rfl ?_
        refine gx_iload_n C dM_place_113 1 rfl rfl ?_
        refine gx_iload_n C dM_place_114 4 rfl rfl ?_
        refine gx_iadd C dM_place_115 ?_
        refine gx_iload C dM_place_116 0 rfl ?_
        refine gx_callv (As := [.int (y3 + v1), .int y4]) (rest := []) C (mt_M_give l dC dI cI cZ o  _ _ _ _ hs) (gx_cwV C 2 ln_M_54 im_M_give se_M_give in_CountedObjectsModel cd_M_give rfl rfl (by decide +kernel) ⟨Nat.le_of_ble_eq_true rfl, Nat.le_of_ble_eq_true rfl⟩) mo_this rfl (Nat.le_of_ble_eq_true rfl) dM_place_118 (fun S1 => mw_ad _ S1) rfl (fun S9 hs => ?_)
        refine gx_iload_n C dM_place_121 1 rfl rfl ?_
        exact gx_iret C hr hlocks dM_place_122 hs
    · have hs := hf hc
      refine gx_iconst (v := (-1)) C dM_place_33 (by decide) ?_
      exact gx_iret C hr hlocks dM_place_34 hs
  · have hs := hf hc
    refine gx_aload_n C dM_place_10 1 rfl rfl ?_
    refine gx_calli (As := []) (rest := []) C (mt_M_freeWords l dC dI cI cZ o  _ _ hs) (gx_cwV C 0 ln_M_78 im_M_freeWords se_M_freeWords in_CountedObjectsModel cd_M_freeWords rfl rfl (by decide +kernel) ⟨Nat.le_of_ble_eq_true rfl, Nat.le_of_ble_eq_true rfl⟩) mo_this rfl (Nat.le_of_ble_eq_true rfl) dM_place_11 (fun S1 => mw_ad _ S1) rfl (fun r12 S11 hs => ?_)
    refine gx_iload_n C dM_place_14 2 rfl rfl ?_
    obtain ⟨ht, hf⟩ := hs
    refine gx_icmp_lt C dM_place_15 29 rfl (fun hc => ?_) (fun hc => ?_)
    · have hs := ht hc
      refine gx_iload_n C dM_place_29 0 rfl rfl ?_
      obtain ⟨ht, hf⟩ := hs
      refine gx_if_ge C dM_place_30 35 rfl (fun hc => ?_) (fun hc => ?_)
      · have hs := ht hc
        refine gx_aload_n C dM_place_35 1 rfl rfl ?_
        refine gx_get C mo_this hi_M 10 (by decide) fl_M_29 rfl dM_place_36 ?_
        refine gx_iload_n C dM_place_39 0 rfl rfl ?_
        obtain ⟨hin, hs⟩ := hs
        refine gx_iald C ma_begins hin dM_place_40 ?_
        refine gx_top (fun y13 ey13 => ?_)
        replace hs := hs y13 ey13
        refine gx_istore_n (L' := [(3, .int y13), (2, .int r2), (0, .ref (o 0)), (1, .int v1)]) C dM_place_41 rfl (by decide) rfl ?_
        refine gx_aload_n C dM_place_42 2 rfl rfl ?_
        refine gx_get C mo_this hi_M 11 (by decide) fl_M_32 rfl dM_place_43 ?_
        refine gx_iload_n C dM_place_46 1 rfl rfl ?_
        obtain ⟨hin, hs⟩ := hs
        refine gx_iald C ma_lengths hin dM_place_47 ?_
        refine gx_iload_n C dM_place_48 3 rfl rfl ?_
        refine gx_isub C dM_place_49 ?_
        refine gx_top (fun y14 ey14 => ?_)
        replace hs := hs y14 ey14
        refine gx_istore (L' := [(4, .int y14), (3, .int y13), (2, .int r2), (0, .ref (o 0)), (1, .int v1)]) C dM_place_50 (by decide) rfl ?_
        refine gx_aload_n C dM_place_52 3 rfl rfl ?_
        refine gx_dup C dM_place_53 rfl ?_
        refine gx_get C mo_this hi_M 9 (by decide) fl_M_68 rfl dM_place_54 ?_
        refine gx_iconst (v := 1) C dM_place_57 (by decide) ?_
        refine gx_isub C dM_place_58 ?_
        refine gx_put C mo_this hi_M tyM tyM_ok nmM 9 (by decide) fl_M_68 rfl (by decide +kernel) (Nat.le_of_ble_eq_true rfl) (mp_frees _ _) dM_place_59 (fun S15 eS15 => ?_)
        replace hs := hs S15 eS15
        refine gx_aload_n C dM_place_62 3 rfl rfl ?_
        refine gx_get C mo_this hi_M 10 (by decide) fl_M_29 rfl dM_place_63 ?_
        refine gx_iload_n C dM_place_66 2 rfl rfl ?_
        refine gx_aload_n C dM_place_67 3 rfl rfl ?_
        refine gx_get C mo_this hi_M 10 (by decide) fl_M_29 rfl dM_place_68 ?_
        refine gx_aload_n C dM_place_71 3 rfl rfl ?_
        refine gx_get C mo_this hi_M 9 (by decide) fl_M_68 rfl dM_place_72 ?_
        obtain ⟨hin, hs⟩ := hs
        refine gx_iald C ma_begins hin dM_place_75 ?_
        obtain ⟨hin, hs⟩ := hs
        refine gx_iast C ma_begins hin dM_place_76 (fun S16 eS16 => ?_)
        replace hs := hs S16 eS16
        refine gx_aload_n C dM_place_77 3 rfl rfl ?_
        refine gx_get C mo_this hi_M 11 (by decide) fl_M_32 rfl dM_place_78 ?_
        refine gx_iload_n C dM_place_81 2 rfl rfl ?_
        refine gx_aload_n C dM_place_82 3 rfl rfl ?_
        refine gx_get C mo_this hi_M 11 (by decide) fl_M_32 rfl dM_place_83 ?_
        refine gx_aload_n C dM_place_86 3 rfl rfl ?_
        refine gx_get C mo_this hi_M 9 (by decide) fl_M_68 rfl dM_place_87 ?_
        obtain ⟨hin, hs⟩ := hs
        refine gx_iald C ma_lengths hin dM_place_90 ?_
        obtain ⟨hin, hs⟩ := hs
        refine gx_iast C ma_lengths hin dM_place_91 (fun S17 eS17 => ?_)
        replace hs := hs S17 eS17
        refine gx_aload_n C dM_place_92 3 rfl rfl ?_
        refine gx_get C mo_this hi_M 12 (by decide) fl_M_35 rfl dM_place_93 ?_
        refine gx_iload_n C dM_place_96 2 rfl rfl ?_
        refine gx_aload_n C dM_place_97 3 rfl rfl ?_
        refine gx_get C mo_this hi_M 12 (by decide) fl_M_35 rfl dM_place_98 ?_
        refine gx_aload_n C dM_place_101 3 rfl rfl ?_
        refine gx_get C mo_this hi_M 9 (by decide) fl_M_68 rfl dM_place_102 ?_
        obtain ⟨hin, hs⟩ := hs
        refine gx_iald C ma_came hin dM_place_105 ?_
        obtain ⟨hin, hs⟩ := hs
        refine gx_iast C ma_came hin dM_place_106 (fun S18 eS18 => ?_)
        replace hs := hs S18 eS18
        refine gx_iload C dM_place_107 0 rfl ?_
        obtain ⟨ht, hf⟩ := hs
        refine gx_if_le C dM_place_109 121 rfl (fun hc => ?_) (fun hc => ?_)
        · have hs := ht hc
          refine gx_iload_n C dM_place_121 1 rfl rfl ?_
          exact gx_iret C hr hlocks dM_place_122 hs
        · have hs := hf hc
          refine gx_aload_n C dM_place_112 3 rfl rfl ?_
          refine gx_iload_n C dM_place_113 1 rfl rfl ?_
          refine gx_iload_n C dM_place_114 4 rfl rfl ?_
          refine gx_iadd C dM_place_115 ?_
          refine gx_iload C dM_place_116 0 rfl ?_
          refine gx_callv (As := [.int (y13 + v1), .int y14]) (rest := []) C (mt_M_give l dC dI cI cZ o  _ _ _ _ hs) (gx_cwV C 2 ln_M_54 im_M_give se_M_give in_CountedObjectsModel cd_M_give rfl rfl (by decide +kernel) ⟨Nat.le_of_ble_eq_true rfl, Nat.le_of_ble_eq_true rfl⟩) mo_this rfl (Nat.le_of_ble_eq_true rfl) dM_place_118 (fun S1 => mw_ad _ S1) rfl (fun S19 hs => ?_)
          refine gx_iload_n C dM_place_121 1 rfl rfl ?_
          exact gx_iret C hr hlocks dM_place_122 hs
      · have hs := hf hc
        refine gx_iconst (v := (-1)) C dM_place_33 (by decide) ?_
        exact gx_iret C hr hlocks dM_place_34 hs
    · have hs := hf hc
      refine gx_aload_n C dM_place_18 1 rfl rfl ?_
      refine gx_calli (As := []) (rest := []) C (mt_M_pack l dC dI cI cZ o  _ _ hs) (gx_cwV C 0 ln_M_82 im_M_pack se_M_pack in_CountedObjectsModel cd_M_pack rfl rfl (by decide +kernel) ⟨Nat.le_of_ble_eq_true rfl, Nat.le_of_ble_eq_true rfl⟩) mo_this rfl (Nat.le_of_ble_eq_true rfl) dM_place_19 (fun S1 => mw_ad _ S1) rfl (fun r22 S21 hs => ?_)
      refine gx_istore_n (L' := [(3, .int r22), (2, .int r2), (0, .ref (o 0)), (1, .int v1)]) C dM_place_22 rfl (by decide) rfl ?_
      refine gx_aload_n C dM_place_23 2 rfl rfl ?_
      refine gx_iload_n C dM_place_24 3 rfl rfl ?_
      refine gx_calli (As := [.int v1]) (rest := []) C (mt_M_fitting l dC dI cI cZ o  _ _ _ hs) (gx_cwV C 1 ln_M_74 im_M_fitting se_M_fitting in_CountedObjectsModel cd_M_fitting rfl rfl (by decide +kernel) ⟨Nat.le_of_ble_eq_true rfl, Nat.le_of_ble_eq_true rfl⟩) mo_this rfl (Nat.le_of_ble_eq_true rfl) dM_place_25 (fun S1 => mw_ad _ S1) rfl (fun r24 S23 hs => ?_)
      refine gx_istore_n (L' := [(2, .int r24), (3, .int r22), (0, .ref (o 0)), (1, .int v1)]) C dM_place_28 rfl (by decide) rfl ?_
      refine gx_iload_n C dM_place_29 0 rfl rfl ?_
      obtain ⟨ht, hf⟩ := hs
      refine gx_if_ge C dM_place_30 35 rfl (fun hc => ?_) (fun hc => ?_)
      · have hs := ht hc
        refine gx_aload_n C dM_place_35 2 rfl rfl ?_
        refine gx_get C mo_this hi_M 10 (by decide) fl_M_29 rfl dM_place_36 ?_
        refine gx_iload_n C dM_place_39 0 rfl rfl ?_
        obtain ⟨hin, hs⟩ := hs
        refine gx_iald C ma_begins hin dM_place_40 ?_
        refine gx_top (fun y25 ey25 => ?_)
        replace hs := hs y25 ey25
        refine gx_istore_n (L' := [(3, .int y25), (2, .int r24), (0, .ref (o 0)), (1, .int v1)]) C dM_place_41 rfl (by decide) rfl ?_
        refine gx_aload_n C dM_place_42 2 rfl rfl ?_
        refine gx_get C mo_this hi_M 11 (by decide) fl_M_32 rfl dM_place_43 ?_
        refine gx_iload_n C dM_place_46 1 rfl rfl ?_
        obtain ⟨hin, hs⟩ := hs
        refine gx_iald C ma_lengths hin dM_place_47 ?_
        refine gx_iload_n C dM_place_48 3 rfl rfl ?_
        refine gx_isub C dM_place_49 ?_
        refine gx_top (fun y26 ey26 => ?_)
        replace hs := hs y26 ey26
        refine gx_istore (L' := [(4, .int y26), (3, .int y25), (2, .int r24), (0, .ref (o 0)), (1, .int v1)]) C dM_place_50 (by decide) rfl ?_
        refine gx_aload_n C dM_place_52 3 rfl rfl ?_
        refine gx_dup C dM_place_53 rfl ?_
        refine gx_get C mo_this hi_M 9 (by decide) fl_M_68 rfl dM_place_54 ?_
        refine gx_iconst (v := 1) C dM_place_57 (by decide) ?_
        refine gx_isub C dM_place_58 ?_
        refine gx_put C mo_this hi_M tyM tyM_ok nmM 9 (by decide) fl_M_68 rfl (by decide +kernel) (Nat.le_of_ble_eq_true rfl) (mp_frees _ _) dM_place_59 (fun S27 eS27 => ?_)
        replace hs := hs S27 eS27
        refine gx_aload_n C dM_place_62 3 rfl rfl ?_
        refine gx_get C mo_this hi_M 10 (by decide) fl_M_29 rfl dM_place_63 ?_
        refine gx_iload_n C dM_place_66 2 rfl rfl ?_
        refine gx_aload_n C dM_place_67 3 rfl rfl ?_
        refine gx_get C mo_this hi_M 10 (by decide) fl_M_29 rfl dM_place_68 ?_
        refine gx_aload_n C dM_place_71 3 rfl rfl ?_
        refine gx_get C mo_this hi_M 9 (by decide) fl_M_68 rfl dM_place_72 ?_
        obtain ⟨hin, hs⟩ := hs
        refine gx_iald C ma_begins hin dM_place_75 ?_
        obtain ⟨hin, hs⟩ := hs
        refine gx_iast C ma_begins hin dM_place_76 (fun S28 eS28 => ?_)
        replace hs := hs S28 eS28
        refine gx_aload_n C dM_place_77 3 rfl rfl ?_
        refine gx_get C mo_this hi_M 11 (by decide) fl_M_32 rfl dM_place_78 ?_
        refine gx_iload_n C dM_place_81 2 rfl rfl ?_
        refine gx_aload_n C dM_place_82 3 rfl rfl ?_
        refine gx_get C mo_this hi_M 11 (by decide) fl_M_32 rfl dM_place_83 ?_
        refine gx_aload_n C dM_place_86 3 rfl rfl ?_
        refine gx_get C mo_this hi_M 9 (by decide) fl_M_68 rfl dM_place_87 ?_
        obtain ⟨hin, hs⟩ := hs
        refine gx_iald C ma_lengths hin dM_place_90 ?_
        obtain ⟨hin, hs⟩ := hs
        refine gx_iast C ma_lengths hin dM_place_91 (fun S29 eS29 => ?_)
        replace hs := hs S29 eS29
        refine gx_aload_n C dM_place_92 3 rfl rfl ?_
        refine gx_get C mo_this hi_M 12 (by decide) fl_M_35 rfl dM_place_93 ?_
        refine gx_iload_n C dM_place_96 2 rfl rfl ?_
        refine gx_aload_n C dM_place_97 3 rfl rfl ?_
        refine gx_get C mo_this hi_M 12 (by decide) fl_M_35 rfl dM_place_98 ?_
        refine gx_aload_n C dM_place_101 3 rfl rfl ?_
        refine gx_get C mo_this hi_M 9 (by decide) fl_M_68 rfl dM_place_102 ?_
        obtain ⟨hin, hs⟩ := hs
        refine gx_iald C ma_came hin dM_place_105 ?_
        obtain ⟨hin, hs⟩ := hs
        refine gx_iast C ma_came hin dM_place_106 (fun S30 eS30 => ?_)
        replace hs := hs S30 eS30
        refine gx_iload C dM_place_107 0 rfl ?_
        obtain ⟨ht, hf⟩ := hs
        refine gx_if_le C dM_place_109 121 rfl (fun hc => ?_) (fun hc => ?_)
        · have hs := ht hc
          refine gx_iload_n C dM_place_121 1 rfl rfl ?_
          exact gx_iret C hr hlocks dM_place_122 hs
        · have hs := hf hc
          refine gx_aload_n C dM_place_112 3 rfl rfl ?_
          refine gx_iload_n C dM_place_113 1 rfl rfl ?_
          refine gx_iload_n C dM_place_114 4 rfl rfl ?_
          refine gx_iadd C dM_place_115 ?_
          refine gx_iload C dM_place_116 0 rfl ?_
          refine gx_callv (As := [.int (y25 + v1), .int y26]) (rest := []) C (mt_M_give l dC dI cI cZ o  _ _ _ _ hs) (gx_cwV C 2 ln_M_54 im_M_give se_M_give in_CountedObjectsModel cd_M_give rfl rfl (by decide +kernel) ⟨Nat.le_of_ble_eq_true rfl, Nat.le_of_ble_eq_true rfl⟩) mo_this rfl (Nat.le_of_ble_eq_true rfl) dM_place_118 (fun S1 => mw_ad _ S1) rfl (fun S31 hs => ?_)
          refine gx_iload_n C dM_place_121 1 rfl rfl ?_
          exact gx_iret C hr hlocks dM_place_122 hs
      · have hs := hf hc
        refine gx_iconst (v := (-1)) C dM_place_33 (by decide) ?_
        exact gx_iret C hr hlocks dM_place_34 hs
set_option maxHeartbeats 4000000 in
set_option maxRecDepth 100000 in
theorem mt_M_place (l : Launch) (dC : Nat → ClassId) (dI : Nat → Nat → Nat) (cI cZ : ClassId) (o : Nat → Nat) (v1 : Int32) (S : GS) (post : Int32 → GS → Prop) (h : wp_M_place [v1] S post) : MetI l yM_place (Cond.code yM_place cM_place 5 (some .int) :: wsA) ({ frames := 2, cells := 0, slots := 0, locals := 49 }) (dC, dI) gx_cl [(cI, .int), (cZ, .boolean)] (mw cI cZ o) [.ref (o 0), .int v1] S post := by
  refine gx_metI (by decide) wsA_good (Nat.le_of_ble_eq_true rfl) ?_
  intro p e s m args below meth c A C hr hlocks
  refine h (vh_M_place o (GV p l e ({ frames := 2, cells := 0, slots := 0, locals := 49 }) s m args below meth c (MQ below (va_Qi post (GB (mw cI cZ o) (dC, dI) gx_cl [(cI, .int), (cZ, .boolean)] A) A) args s 0 0 A) 5 (dC, dI) gx_cl A (mw cI cZ o))) (fun h S xs hs => ?_)
  unfold sp_M_place at hs
  split at hs
  · exact wk_M_place_0 C hr hlocks _ _ hs
  · exact hs.elim
/-- CountedObjectsModel.comes(I)V: a step from head to head -/
def sp_M_comes (post : GS → Prop) (V : Nat → GS → List Int32 → Prop) (h : Nat) (S : GS) (xs : List Int32) : Prop := match h, xs with
  | 0, [v1] => wp_M_leads  [v1] S (fun r2 S1 => ((r2 = 0 → post S1) ∧ (¬ r2 = 0 → (vp_in (v1 / 2) 41 ∧ ((7 ≤ (S1 4 (v1 / 2).toNatClampNeg) → post S1) ∧ (¬ 7 ≤ (S1 4 (v1 / 2).toNatClampNeg) → (vp_in (v1 / 2) 41 ∧ (vp_in (v1 / 2) 41 ∧ ∀ S3 : GS, S3 = gx_set 4 (v1 / 2).toNatClampNeg ((S1 4 (v1 / 2).toNatClampNeg) + 1) S1 → post S3))))))))
  | _, _ => False
def wp_M_comes (xs : List Int32) (S : GS) (post : GS → Prop) : Prop := ∀ V : Nat → GS → List Int32 → Prop, (∀ h S xs, sp_M_comes post V h S xs → V h S xs) → V 0 S xs
def vh_M_comes (o : Nat → Nat) (G : GS → Nat → List (Nat × Value) → List Value → Prop) (h : Nat) (S : GS) (xs : List Int32) : Prop := match h, xs with
  | 0, [v1] => G S 0 [(0, .ref (o 0)), (1, .int v1)] []
  | _, _ => True
set_option maxHeartbeats 4000000 in
set_option maxRecDepth 100000 in
theorem wk_M_comes_0 {l : Launch} {dC : Nat → ClassId} {dI : Nat → Nat → Nat} {cI cZ : ClassId} {o : Nat → Nat}  {p : Program} {e : Env} {s : State} {m : MethodId} {args : Array Value} {below : List Frame} {meth : Method} {c : Code} {A : Nat → Prop} {post : GS → Prop} (C : GC p s m args c cM_comes 2 RM wsA (dC, dI) gx_cl [(cI, .int), (cZ, .boolean)] A) (hr : meth.sig.returnType = none) (hlocks : meth.locks = false) (S : GS) (v1 : Int32) (hs : sp_M_comes post (vh_M_comes o (GV p l e ({ frames := 1, cells := 0, slots := 0, locals := 20 }) s m args below meth c (MQ below (va_Qv post (GB (mw cI cZ o) (dC, dI) gx_cl [(cI, .int), (cZ, .boolean)] A) A) args s 0 0 A) 2 (dC, dI) gx_cl A (mw cI cZ o))) 0 S [v1]) : GV p l e ({ frames := 1, cells := 0, slots := 0, locals := 20 }) s m args below meth c (MQ below (va_Qv post (GB (mw cI cZ o) (dC, dI) gx_cl [(cI, .int), (cZ, .boolean)] A) A) args s 0 0 A) 2 (dC, dI) gx_cl A (mw cI cZ o) S 0 [(0, .ref (o 0)), (1, .int v1)] [] := by
  refine gx_iload_n C dM_comes_0 1 rfl rfl ?_
  refine gx_calls (As := [.int v1]) (rest := []) C (mt_M_leads l dC dI cI cZ o  _ _ _ hs) (gx_cwS C 1 ln_M_61 sm_M_leads in_CountedObjectsModel cd_M_leads rfl rfl (by decide +kernel) ⟨Nat.le_of_ble_eq_true rfl, Nat.le_of_ble_eq_true rfl⟩) rfl (Nat.le_of_ble_eq_true rfl) dM_comes_1 (fun S1 => mw_ad _ S1) rfl (fun r2 S1 hs => ?_)
  obtain ⟨ht, hf⟩ := hs
  refine gx_if_eq C dM_comes_4 32 rfl (fun hc => ?_) (fun hc => ?_)
  · have hs := ht hc
    exact gx_vret C hr hlocks dM_comes_32 hs
  · have hs := hf hc
    refine gx_aload_n C dM_comes_7 0 rfl rfl ?_
    refine gx_get C mo_this hi_M 7 (by decide) fl_M_23 rfl dM_comes_8 ?_
    refine gx_iload_n C dM_comes_11 1 rfl rfl ?_
    refine gx_iconst (v := 2) C dM_comes_12 (by decide) ?_
    refine gx_idiv C dM_comes_13 (by decide) ?_
    obtain ⟨hin, hs⟩ := hs
    refine gx_iald C ma_counts hin dM_comes_14 ?_
    refine gx_bipush (v := 7) C dM_comes_15 (by decide) ?_
    obtain ⟨ht, hf⟩ := hs
    refine gx_icmp_ge C dM_comes_17 32 rfl (fun hc => ?_) (fun hc => ?_)
    · have hs := ht hc
      exact gx_vret C hr hlocks dM_comes_32 hs
    · have hs := hf hc
      refine gx_aload_n C dM_comes_20 0 rfl rfl ?_
      refine gx_get C mo_this hi_M 7 (by decide) fl_M_23 rfl dM_comes_21 ?_
      refine gx_iload_n C dM_comes_24 1 rfl rfl ?_
      refine gx_iconst (v := 2) C dM_comes_25 (by decide) ?_
      refine gx_idiv C dM_comes_26 (by decide) ?_
      refine gx_dup2 C dM_comes_27 rfl rfl ?_
      obtain ⟨hin, hs⟩ := hs
      refine gx_iald C ma_counts hin dM_comes_28 ?_
      refine gx_iconst (v := 1) C dM_comes_29 (by decide) ?_
      refine gx_iadd C dM_comes_30 ?_
      obtain ⟨hin, hs⟩ := hs
      refine gx_iast C ma_counts hin dM_comes_31 (fun S3 eS3 => ?_)
      replace hs := hs S3 eS3
      exact gx_vret C hr hlocks dM_comes_32 hs
set_option maxHeartbeats 4000000 in
set_option maxRecDepth 100000 in
theorem mt_M_comes (l : Launch) (dC : Nat → ClassId) (dI : Nat → Nat → Nat) (cI cZ : ClassId) (o : Nat → Nat) (v1 : Int32) (S : GS) (post : GS → Prop) (h : wp_M_comes [v1] S post) : MetV l yM_comes (Cond.code yM_comes cM_comes 2 none :: wsA) ({ frames := 1, cells := 0, slots := 0, locals := 20 }) (dC, dI) gx_cl [(cI, .int), (cZ, .boolean)] (mw cI cZ o) [.ref (o 0), .int v1] S post := by
  refine gx_metV (by decide) wsA_good (Nat.le_of_ble_eq_true rfl) ?_
  intro p e s m args below meth c A C hr hlocks
  refine h (vh_M_comes o (GV p l e ({ frames := 1, cells := 0, slots := 0, locals := 20 }) s m args below meth c (MQ below (va_Qv post (GB (mw cI cZ o) (dC, dI) gx_cl [(cI, .int), (cZ, .boolean)] A) A) args s 0 0 A) 2 (dC, dI) gx_cl A (mw cI cZ o))) (fun h S xs hs => ?_)
  unfold sp_M_comes at hs
  split at hs
  · exact wk_M_comes_0 C hr hlocks _ _ hs
  · exact hs.elim
/-- CountedObjectsModel.less(I)V: a step from head to head -/
def sp_M_less (post : GS → Prop) (V : Nat → GS → List Int32 → Prop) (h : Nat) (S : GS) (xs : List Int32) : Prop := match h, xs with
  | 0, [v1] => wp_M_leads  [v1] S (fun r2 S1 => ((r2 = 0 → post S1) ∧ (¬ r2 = 0 → (vp_in (v1 / 2) 41 ∧ ((7 ≤ (S1 4 (v1 / 2).toNatClampNeg) → post S1) ∧ (¬ 7 ≤ (S1 4 (v1 / 2).toNatClampNeg) → (vp_in (v1 / 2) 41 ∧ (vp_in (v1 / 2) 41 ∧ ∀ S3 : GS, S3 = gx_set 4 (v1 / 2).toNatClampNeg ((S1 4 (v1 / 2).toNatClampNeg) - 1) S1 → (vp_in (v1 / 2) 41 ∧ ((¬ (S3 4 (v1 / 2).toNatClampNeg) = 0 → post S3) ∧ ((S3 4 (v1 / 2).toNatClampNeg) = 0 → (vp_in (S3 100 5) 41 ∧ ∀ S4 : GS, S4 = gx_set 9 (S3 100 5).toNatClampNeg (v1 / 2) S3 → (vp_in (S4 100 5) 41 ∧ ∀ S5 : GS, S5 = gx_set 10 (S4 100 5).toNatClampNeg 0 S4 → (∀ S6 : GS, S6 = gx_set 100 5 ((S5 100 5) + 1) S5 → post S6))))))))))))))
  | _, _ => False
def wp_M_less (xs : List Int32) (S : GS) (post : GS → Prop) : Prop := ∀ V : Nat → GS → List Int32 → Prop, (∀ h S xs, sp_M_less post V h S xs → V h S xs) → V 0 S xs
def vh_M_less (o : Nat → Nat) (G : GS → Nat → List (Nat × Value) → List Value → Prop) (h : Nat) (S : GS) (xs : List Int32) : Prop := match h, xs with
  | 0, [v1] => G S 0 [(0, .ref (o 0)), (1, .int v1)] []
  | _, _ => True
set_option maxHeartbeats 4000000 in
set_option maxRecDepth 100000 in
theorem wk_M_less_0 {l : Launch} {dC : Nat → ClassId} {dI : Nat → Nat → Nat} {cI cZ : ClassId} {o : Nat → Nat}  {p : Program} {e : Env} {s : State} {m : MethodId} {args : Array Value} {below : List Frame} {meth : Method} {c : Code} {A : Nat → Prop} {post : GS → Prop} (C : GC p s m args c cM_less 2 RM wsA (dC, dI) gx_cl [(cI, .int), (cZ, .boolean)] A) (hr : meth.sig.returnType = none) (hlocks : meth.locks = false) (S : GS) (v1 : Int32) (hs : sp_M_less post (vh_M_less o (GV p l e ({ frames := 1, cells := 0, slots := 0, locals := 20 }) s m args below meth c (MQ below (va_Qv post (GB (mw cI cZ o) (dC, dI) gx_cl [(cI, .int), (cZ, .boolean)] A) A) args s 0 0 A) 2 (dC, dI) gx_cl A (mw cI cZ o))) 0 S [v1]) : GV p l e ({ frames := 1, cells := 0, slots := 0, locals := 20 }) s m args below meth c (MQ below (va_Qv post (GB (mw cI cZ o) (dC, dI) gx_cl [(cI, .int), (cZ, .boolean)] A) A) args s 0 0 A) 2 (dC, dI) gx_cl A (mw cI cZ o) S 0 [(0, .ref (o 0)), (1, .int v1)] [] := by
  refine gx_iload_n C dM_less_0 1 rfl rfl ?_
  refine gx_calls (As := [.int v1]) (rest := []) C (mt_M_leads l dC dI cI cZ o  _ _ _ hs) (gx_cwS C 1 ln_M_61 sm_M_leads in_CountedObjectsModel cd_M_leads rfl rfl (by decide +kernel) ⟨Nat.le_of_ble_eq_true rfl, Nat.le_of_ble_eq_true rfl⟩) rfl (Nat.le_of_ble_eq_true rfl) dM_less_1 (fun S1 => mw_ad _ S1) rfl (fun r2 S1 hs => ?_)
  obtain ⟨ht, hf⟩ := hs
  refine gx_if_eq C dM_less_4 75 rfl (fun hc => ?_) (fun hc => ?_)
  · have hs := ht hc
    exact gx_vret C hr hlocks dM_less_75 hs
  · have hs := hf hc
    refine gx_aload_n C dM_less_7 0 rfl rfl ?_
    refine gx_get C mo_this hi_M 7 (by decide) fl_M_23 rfl dM_less_8 ?_
    refine gx_iload_n C dM_less_11 1 rfl rfl ?_
    refine gx_iconst (v := 2) C dM_less_12 (by decide) ?_
    refine gx_idiv C dM_less_13 (by decide) ?_
    obtain ⟨hin, hs⟩ := hs
    refine gx_iald C ma_counts hin dM_less_14 ?_
    refine gx_bipush (v := 7) C dM_less_15 (by decide) ?_
    obtain ⟨ht, hf⟩ := hs
    refine gx_icmp_ge C dM_less_17 75 rfl (fun hc => ?_) (fun hc => ?_)
    · have hs := ht hc
      exact gx_vret C hr hlocks dM_less_75 hs
    · have hs := hf hc
      refine gx_aload_n C dM_less_20 0 rfl rfl ?_
      refine gx_get C mo_this hi_M 7 (by decide) fl_M_23 rfl dM_less_21 ?_
      refine gx_iload_n C dM_less_24 1 rfl rfl ?_
      refine gx_iconst (v := 2) C dM_less_25 (by decide) ?_
      refine gx_idiv C dM_less_26 (by decide) ?_
      refine gx_dup2 C dM_less_27 rfl rfl ?_
      obtain ⟨hin, hs⟩ := hs
      refine gx_iald C ma_counts hin dM_less_28 ?_
      refine gx_iconst (v := 1) C dM_less_29 (by decide) ?_
      refine gx_isub C dM_less_30 ?_
      obtain ⟨hin, hs⟩ := hs
      refine gx_iast C ma_counts hin dM_less_31 (fun S3 eS3 => ?_)
      replace hs := hs S3 eS3
      refine gx_aload_n C dM_less_32 0 rfl rfl ?_
      refine gx_get C mo_this hi_M 7 (by decide) fl_M_23 rfl dM_less_33 ?_
      refine gx_iload_n C dM_less_36 1 rfl rfl ?_
      refine gx_iconst (v := 2) C dM_less_37 (by decide) ?_
      refine gx_idiv C dM_less_38 (by decide) ?_
      obtain ⟨hin, hs⟩ := hs
      refine gx_iald C ma_counts hin dM_less_39 ?_
      obtain ⟨ht, hf⟩ := hs
      refine gx_if_ne C dM_less_40 75 rfl (fun hc => ?_) (fun hc => ?_)
      · have hs := ht hc
        exact gx_vret C hr hlocks dM_less_75 hs
      · have hs := hf hc
        refine gx_aload_n C dM_less_43 0 rfl rfl ?_
        refine gx_get C mo_this hi_M 15 (by decide) fl_M_38 rfl dM_less_44 ?_
        refine gx_aload_n C dM_less_47 0 rfl rfl ?_
        refine gx_get C mo_this hi_M 14 (by decide) fl_M_85 rfl dM_less_48 ?_
        refine gx_iload_n C dM_less_51 1 rfl rfl ?_
        refine gx_iconst (v := 2) C dM_less_52 (by decide) ?_
        refine gx_idiv C dM_less_53 (by decide) ?_
        obtain ⟨hin, hs⟩ := hs
        refine gx_iast C ma_goes hin dM_less_54 (fun S4 eS4 => ?_)
        replace hs := hs S4 eS4
        refine gx_aload_n C dM_less_55 0 rfl rfl ?_
        refine gx_get C mo_this hi_M 16 (by decide) fl_M_41 rfl dM_less_56 ?_
        refine gx_aload_n C dM_less_59 0 rfl rfl ?_
        refine gx_get C mo_this hi_M 14 (by decide) fl_M_85 rfl dM_less_60 ?_
        refine gx_iconst (v := 0) C dM_less_63 (by decide) ?_
        obtain ⟨hin, hs⟩ := hs
        refine gx_iast C ma_next hin dM_less_64 (fun S5 eS5 => ?_)
        replace hs := hs S5 eS5
        refine gx_aload_n C dM_less_65 0 rfl rfl ?_
        refine gx_dup C dM_less_66 rfl ?_
        refine gx_get C mo_this hi_M 14 (by decide) fl_M_85 rfl dM_less_67 ?_
        refine gx_iconst (v := 1) C dM_less_70 (by decide) ?_
        refine gx_iadd C dM_less_71 ?_
        refine gx_put C mo_this hi_M tyM tyM_ok nmM 14 (by decide) fl_M_85 rfl (by decide +kernel) (Nat.le_of_ble_eq_true rfl) (mp_going _ _) dM_less_72 (fun S6 eS6 => ?_)
        replace hs := hs S6 eS6
        exact gx_vret C hr hlocks dM_less_75 hs
set_option maxHeartbeats 4000000 in
set_option maxRecDepth 100000 in
theorem mt_M_less (l : Launch) (dC : Nat → ClassId) (dI : Nat → Nat → Nat) (cI cZ : ClassId) (o : Nat → Nat) (v1 : Int32) (S : GS) (post : GS → Prop) (h : wp_M_less [v1] S post) : MetV l yM_less (Cond.code yM_less cM_less 2 none :: wsA) ({ frames := 1, cells := 0, slots := 0, locals := 20 }) (dC, dI) gx_cl [(cI, .int), (cZ, .boolean)] (mw cI cZ o) [.ref (o 0), .int v1] S post := by
  refine gx_metV (by decide) wsA_good (Nat.le_of_ble_eq_true rfl) ?_
  intro p e s m args below meth c A C hr hlocks
  refine h (vh_M_less o (GV p l e ({ frames := 1, cells := 0, slots := 0, locals := 20 }) s m args below meth c (MQ below (va_Qv post (GB (mw cI cZ o) (dC, dI) gx_cl [(cI, .int), (cZ, .boolean)] A) A) args s 0 0 A) 2 (dC, dI) gx_cl A (mw cI cZ o))) (fun h S xs hs => ?_)
  unfold sp_M_less at hs
  split at hs
  · exact wk_M_less_0 C hr hlocks _ _ hs
  · exact hs.elim
/-- CountedObjectsModel.takeAway(I)V: a step from head to head -/
def sp_M_takeAway (post : GS → Prop) (V : Nat → GS → List Int32 → Prop) (h : Nat) (S : GS) (xs : List Int32) : Prop := match h, xs with
  | 0, [v1] => (vp_in v1 41 ∧ ∀ S1 : GS, S1 = gx_set 1 (v1).toNatClampNeg 0 S → (vp_in v1 41 ∧ (vp_in v1 41 ∧ wp_M_give  [S1 2 (v1).toNatClampNeg, (S1 3 (v1).toNatClampNeg) + 2] S1 (fun S2 => post S2))))
  | _, _ => False
def wp_M_takeAway (xs : List Int32) (S : GS) (post : GS → Prop) : Prop := ∀ V : Nat → GS → List Int32 → Prop, (∀ h S xs, sp_M_takeAway post V h S xs → V h S xs) → V 0 S xs
def vh_M_takeAway (o : Nat → Nat) (G : GS → Nat → List (Nat × Value) → List Value → Prop) (h : Nat) (S : GS) (xs : List Int32) : Prop := match h, xs with
  | 0, [v1] => G S 0 [(0, .ref (o 0)), (1, .int v1)] []
  | _, _ => True
set_option maxHeartbeats 4000000 in
set_option maxRecDepth 100000 in
theorem wk_M_takeAway_0 {l : Launch} {dC : Nat → ClassId} {dI : Nat → Nat → Nat} {cI cZ : ClassId} {o : Nat → Nat}  {p : Program} {e : Env} {s : State} {m : MethodId} {args : Array Value} {below : List Frame} {meth : Method} {c : Code} {A : Nat → Prop} {post : GS → Prop} (C : GC p s m args c cM_takeAway 2 RM wsA (dC, dI) gx_cl [(cI, .int), (cZ, .boolean)] A) (hr : meth.sig.returnType = none) (hlocks : meth.locks = false) (S : GS) (v1 : Int32) (hs : sp_M_takeAway post (vh_M_takeAway o (GV p l e ({ frames := 1, cells := 0, slots := 0, locals := 22 }) s m args below meth c (MQ below (va_Qv post (GB (mw cI cZ o) (dC, dI) gx_cl [(cI, .int), (cZ, .boolean)] A) A) args s 0 0 A) 2 (dC, dI) gx_cl A (mw cI cZ o))) 0 S [v1]) : GV p l e ({ frames := 1, cells := 0, slots := 0, locals := 22 }) s m args below meth c (MQ below (va_Qv post (GB (mw cI cZ o) (dC, dI) gx_cl [(cI, .int), (cZ, .boolean)] A) A) args s 0 0 A) 2 (dC, dI) gx_cl A (mw cI cZ o) S 0 [(0, .ref (o 0)), (1, .int v1)] [] := by
  refine gx_aload_n C dM_takeAway_0 0 rfl rfl ?_
  refine gx_get C mo_this hi_M 4 (by decide) fl_M_13 rfl dM_takeAway_1 ?_
  refine gx_iload_n C dM_takeAway_4 1 rfl rfl ?_
  refine gx_iconst (v := 0) C dM_takeAway_5 (by decide) ?_
  obtain ⟨hin, hs⟩ := hs
  refine gx_zast C ma_lives hin (by decide) dM_takeAway_6 (fun S1 eS1 => ?_)
  replace hs := hs S1 eS1
  refine gx_aload_n C dM_takeAway_7 0 rfl rfl ?_
  refine gx_aload_n C dM_takeAway_8 0 rfl rfl ?_
  refine gx_get C mo_this hi_M 5 (by decide) fl_M_17 rfl dM_takeAway_9 ?_
  refine gx_iload_n C dM_takeAway_12 1 rfl rfl ?_
  obtain ⟨hin, hs⟩ := hs
  refine gx_iald C ma_addresses hin dM_takeAway_13 ?_
  refine gx_aload_n C dM_takeAway_14 0 rfl rfl ?_
  refine gx_get C mo_this hi_M 6 (by decide) fl_M_20 rfl dM_takeAway_15 ?_
  refine gx_iload_n C dM_takeAway_18 1 rfl rfl ?_
  obtain ⟨hin, hs⟩ := hs
  refine gx_iald C ma_sizes hin dM_takeAway_19 ?_
  refine gx_iconst (v := 2) C dM_takeAway_20 (by decide) ?_
  refine gx_iadd C dM_takeAway_21 ?_
  refine gx_callv (As := [.int (S1 2 (v1).toNatClampNeg), .int ((S1 3 (v1).toNatClampNeg) + 2)]) (rest := []) C (mt_M_give l dC dI cI cZ o  _ _ _ _ hs) (gx_cwV C 2 ln_M_54 im_M_give se_M_give in_CountedObjectsModel cd_M_give rfl rfl (by decide +kernel) ⟨Nat.le_of_ble_eq_true rfl, Nat.le_of_ble_eq_true rfl⟩) mo_this rfl (Nat.le_of_ble_eq_true rfl) dM_takeAway_22 (fun S1 => mw_ad _ S1) rfl (fun S2 hs => ?_)
  exact gx_vret C hr hlocks dM_takeAway_25 hs
set_option maxHeartbeats 4000000 in
set_option maxRecDepth 100000 in
theorem mt_M_takeAway (l : Launch) (dC : Nat → ClassId) (dI : Nat → Nat → Nat) (cI cZ : ClassId) (o : Nat → Nat) (v1 : Int32) (S : GS) (post : GS → Prop) (h : wp_M_takeAway [v1] S post) : MetV l yM_takeAway (Cond.code yM_takeAway cM_takeAway 2 none :: wsA) ({ frames := 1, cells := 0, slots := 0, locals := 22 }) (dC, dI) gx_cl [(cI, .int), (cZ, .boolean)] (mw cI cZ o) [.ref (o 0), .int v1] S post := by
  refine gx_metV (by decide) wsA_good (Nat.le_of_ble_eq_true rfl) ?_
  intro p e s m args below meth c A C hr hlocks
  refine h (vh_M_takeAway o (GV p l e ({ frames := 1, cells := 0, slots := 0, locals := 22 }) s m args below meth c (MQ below (va_Qv post (GB (mw cI cZ o) (dC, dI) gx_cl [(cI, .int), (cZ, .boolean)] A) A) args s 0 0 A) 2 (dC, dI) gx_cl A (mw cI cZ o))) (fun h S xs hs => ?_)
  unfold sp_M_takeAway at hs
  split at hs
  · exact wk_M_takeAway_0 C hr hlocks _ _ hs
  · exact hs.elim
/-- CountedObjectsModel.leaves(I)V: a step from head to head -/
def sp_M_leaves (post : GS → Prop) (V : Nat → GS → List Int32 → Prop) (h : Nat) (S : GS) (xs : List Int32) : Prop := match h, xs with
  | 0, [v1] => (∀ S1 : GS, S1 = gx_set 100 5 0 S → wp_M_less  [v1] S1 (fun S2 => V 10 S2 [v1]))
  | 10, [v1] => (((S 100 5) ≤ 0 → post S) ∧ (¬ (S 100 5) ≤ 0 → (vp_in ((S 100 5) - 1) 41 ∧ ∀ y1 : Int32, y1 = S 9 ((S 100 5) - 1).toNatClampNeg → (vp_in ((S 100 5) - 1) 41 ∧ ∀ y2 : Int32, y2 = S 10 ((S 100 5) - 1).toNatClampNeg → (vp_in y1 41 ∧ ((y2 ≤ (S 3 (y1).toNatClampNeg) → (vp_in ((S 100 5) - 1) 41 ∧ ∀ S3 : GS, S3 = gx_set 10 ((S 100 5) - 1).toNatClampNeg (y2 + 1) S → (vp_in y1 41 ∧ (vp_in (((S3 2 (y1).toNatClampNeg) + 1) + y2) 400 ∧ wp_M_less  [S3 5 (((S3 2 (y1).toNatClampNeg) + 1) + y2).toNatClampNeg] S3 (fun S4 => V 10 S4 [v1]))))) ∧ (¬ y2 ≤ (S 3 (y1).toNatClampNeg) → (∀ S6 : GS, S6 = gx_set 100 5 ((S 100 5) - 1) S → wp_M_takeAway  [y1] S6 (fun S7 => V 10 S7 [v1])))))))))
  | _, _ => False
def wp_M_leaves (xs : List Int32) (S : GS) (post : GS → Prop) : Prop := ∀ V : Nat → GS → List Int32 → Prop, (∀ h S xs, sp_M_leaves post V h S xs → V h S xs) → V 0 S xs
def vh_M_leaves (o : Nat → Nat) (G : GS → Nat → List (Nat × Value) → List Value → Prop) (h : Nat) (S : GS) (xs : List Int32) : Prop := match h, xs with
  | 0, [v1] => G S 0 [(0, .ref (o 0)), (1, .int v1)] []
  | 10, [v1] => G S 10 [(0, .ref (o 0)), (1, .int v1)] []
  | _, _ => True
set_option maxHeartbeats 4000000 in
set_option maxRecDepth 100000 in
theorem wk_M_leaves_0 {l : Launch} {dC : Nat → ClassId} {dI : Nat → Nat → Nat} {cI cZ : ClassId} {o : Nat → Nat}  {p : Program} {e : Env} {s : State} {m : MethodId} {args : Array Value} {below : List Frame} {meth : Method} {c : Code} {A : Nat → Prop} {post : GS → Prop} (C : GC p s m args c cM_leaves 4 RM wsA (dC, dI) gx_cl [(cI, .int), (cZ, .boolean)] A) (hr : meth.sig.returnType = none) (hlocks : meth.locks = false) (S : GS) (v1 : Int32) (hs : sp_M_leaves post (vh_M_leaves o (GV p l e ({ frames := 2, cells := 0, slots := 0, locals := 43 }) s m args below meth c (MQ below (va_Qv post (GB (mw cI cZ o) (dC, dI) gx_cl [(cI, .int), (cZ, .boolean)] A) A) args s 0 0 A) 4 (dC, dI) gx_cl A (mw cI cZ o))) 0 S [v1]) : GV p l e ({ frames := 2, cells := 0, slots := 0, locals := 43 }) s m args below meth c (MQ below (va_Qv post (GB (mw cI cZ o) (dC, dI) gx_cl [(cI, .int), (cZ, .boolean)] A) A) args s 0 0 A) 4 (dC, dI) gx_cl A (mw cI cZ o) S 0 [(0, .ref (o 0)), (1, .int v1)] [] := by
  refine gx_aload_n C dM_leaves_0 0 rfl rfl ?_
  refine gx_iconst (v := 0) C dM_leaves_1 (by decide) ?_
  refine gx_put C mo_this hi_M tyM tyM_ok nmM 14 (by decide) fl_M_85 rfl (by decide +kernel) (Nat.le_of_ble_eq_true rfl) (mp_going _ _) dM_leaves_2 (fun S1 eS1 => ?_)
  replace hs := hs S1 eS1
  refine gx_aload_n C dM_leaves_5 0 rfl rfl ?_
  refine gx_iload_n C dM_leaves_6 1 rfl rfl ?_
  refine gx_callv (As := [.int v1]) (rest := []) C (mt_M_less l dC dI cI cZ o  _ _ _ hs) (gx_cwV C 1 ln_M_88 im_M_less se_M_less in_CountedObjectsModel cd_M_less rfl rfl (by decide +kernel) ⟨Nat.le_of_ble_eq_true rfl, Nat.le_of_ble_eq_true rfl⟩) mo_this rfl (Nat.le_of_ble_eq_true rfl) dM_leaves_7 (fun S1 => mw_ad _ S1) rfl (fun S2 hs => ?_)
  exact hs
set_option maxHeartbeats 4000000 in
set_option maxRecDepth 100000 in
theorem wk_M_leaves_10 {l : Launch} {dC : Nat → ClassId} {dI : Nat → Nat → Nat} {cI cZ : ClassId} {o : Nat → Nat}  {p : Program} {e : Env} {s : State} {m : MethodId} {args : Array Value} {below : List Frame} {meth : Method} {c : Code} {A : Nat → Prop} {post : GS → Prop} (C : GC p s m args c cM_leaves 4 RM wsA (dC, dI) gx_cl [(cI, .int), (cZ, .boolean)] A) (hr : meth.sig.returnType = none) (hlocks : meth.locks = false) (S : GS) (v1 : Int32) (hs : sp_M_leaves post (vh_M_leaves o (GV p l e ({ frames := 2, cells := 0, slots := 0, locals := 43 }) s m args below meth c (MQ below (va_Qv post (GB (mw cI cZ o) (dC, dI) gx_cl [(cI, .int), (cZ, .boolean)] A) A) args s 0 0 A) 4 (dC, dI) gx_cl A (mw cI cZ o))) 10 S [v1]) : GV p l e ({ frames := 2, cells := 0, slots := 0, locals := 43 }) s m args below meth c (MQ below (va_Qv post (GB (mw cI cZ o) (dC, dI) gx_cl [(cI, .int), (cZ, .boolean)] A) A) args s 0 0 A) 4 (dC, dI) gx_cl A (mw cI cZ o) S 10 [(0, .ref (o 0)), (1, .int v1)] [] := by
  refine gx_aload_n C dM_leaves_10 0 rfl rfl ?_
  refine gx_get C mo_this hi_M 14 (by decide) fl_M_85 rfl dM_leaves_11 ?_
  obtain ⟨ht, hf⟩ := hs
  refine gx_if_le C dM_leaves_14 105 rfl (fun hc => ?_) (fun hc => ?_)
  · have hs := ht hc
    exact gx_vret C hr hlocks dM_leaves_105 hs
  · have hs := hf hc
    refine gx_aload_n C dM_leaves_17 0 rfl rfl ?_
    refine gx_get C mo_this hi_M 15 (by decide) fl_M_38 rfl dM_leaves_18 ?_
    refine gx_aload_n C dM_leaves_21 0 rfl rfl ?_
    refine gx_get C mo_this hi_M 14 (by decide) fl_M_85 rfl dM_leaves_22 ?_
    refine gx_iconst (v := 1) C dM_leaves_25 (by decide) ?_
    refine gx_isub C dM_leaves_26 ?_
    obtain ⟨hin, hs⟩ := hs
    refine gx_iald C ma_goes hin dM_leaves_27 ?_
    refine gx_top (fun y1 ey1 => ?_)
    replace hs := hs y1 ey1
    refine gx_istore_n (L' := [(2, .int y1), (0, .ref (o 0)), (1, .int v1)]) C dM_leaves_28 rfl (by decide) rfl ?_
    refine gx_aload_n C dM_leaves_29 1 rfl rfl ?_
    refine gx_get C mo_this hi_M 16 (by decide) fl_M_41 rfl dM_leaves_30 ?_
    refine gx_aload_n C dM_leaves_33 1 rfl rfl ?_
    refine gx_get C mo_this hi_M 14 (by decide) fl_M_85 rfl dM_leaves_34 ?_
    refine gx_iconst (v := 1) C dM_leaves_37 (by decide) ?_
    refine gx_isub C dM_leaves_38 ?_
    obtain ⟨hin, hs⟩ := hs
    refine gx_iald C ma_next hin dM_leaves_39 ?_
    refine gx_top (fun y2 ey2 => ?_)
    replace hs := hs y2 ey2
    refine gx_istore_n (L' := [(3, .int y2), (2, .int y1), (0, .ref (o 0)), (1, .int v1)]) C dM_leaves_40 rfl (by decide) rfl ?_
    refine gx_iload_n C dM_leaves_41 0 rfl rfl ?_
    refine gx_aload_n C dM_leaves_42 2 rfl rfl ?_
    refine gx_get C mo_this hi_M 6 (by decide) fl_M_20 rfl dM_leaves_43 ?_
    refine gx_iload_n C dM_leaves_46 1 rfl rfl ?_
    obtain ⟨hin, hs⟩ := hs
    refine gx_iald C ma_sizes hin dM_leaves_47 ?_
    obtain ⟨ht, hf⟩ := hs
    refine gx_icmp_le C dM_leaves_48 69 rfl (fun hc => ?_) (fun hc => ?_)
    · have hs := ht hc
      refine gx_aload_n C dM_leaves_69 2 rfl rfl ?_
      refine gx_get C mo_this hi_M 16 (by decide) fl_M_41 rfl dM_leaves_70 ?_
      refine gx_aload_n C dM_leaves_73 2 rfl rfl ?_
      refine gx_get C mo_this hi_M 14 (by decide) fl_M_85 rfl dM_leaves_74 ?_
      refine gx_iconst (v := 1) C dM_leaves_77 (by decide) ?_
      refine gx_isub C dM_leaves_78 ?_
      refine gx_iload_n C dM_leaves_79 0 rfl rfl ?_
      refine gx_iconst (v := 1) C dM_leaves_80 (by decide) ?_
      refine gx_iadd C dM_leaves_81 ?_
      obtain ⟨hin, hs⟩ := hs
      refine gx_iast C ma_next hin dM_leaves_82 (fun S3 eS3 => ?_)
      replace hs := hs S3 eS3
      refine gx_aload_n C dM_leaves_83 2 rfl rfl ?_
      refine gx_aload_n C dM_leaves_84 2 rfl rfl ?_
      refine gx_get C mo_this hi_M 8 (by decide) fl_M_26 rfl dM_leaves_85 ?_
      refine gx_aload_n C dM_leaves_88 2 rfl rfl ?_
      refine gx_get C mo_this hi_M 5 (by decide) fl_M_17 rfl dM_leaves_89 ?_
      refine gx_iload_n C dM_leaves_92 1 rfl rfl ?_
      obtain ⟨hin, hs⟩ := hs
      refine gx_iald C ma_addresses hin dM_leaves_93 ?_
      refine gx_iconst (v := 1) C dM_leaves_94 (by decide) ?_
      refine gx_iadd C dM_leaves_95 ?_
      refine gx_iload_n C dM_leaves_96 0 rfl rfl ?_
      refine gx_iadd C dM_leaves_97 ?_
      obtain ⟨hin, hs⟩ := hs
      refine gx_iald C ma_word hin dM_leaves_98 ?_
      refine gx_callv (As := [.int (S3 5 (((S3 2 (y1).toNatClampNeg) + 1) + y2).toNatClampNeg)]) (rest := []) C (mt_M_less l dC dI cI cZ o  _ _ _ hs) (gx_cwV C 1 ln_M_88 im_M_less se_M_less in_CountedObjectsModel cd_M_less rfl rfl (by decide +kernel) ⟨Nat.le_of_ble_eq_true rfl, Nat.le_of_ble_eq_true rfl⟩) mo_this rfl (Nat.le_of_ble_eq_true rfl) dM_leaves_99 (fun S1 => mw_ad _ S1) rfl (fun S4 hs => ?_)
      refine gx_goto C dM_leaves_102 10 rfl ?_
      exact gx_sub [2, 3] rfl hs
    · have hs := hf hc
      refine gx_aload_n C dM_leaves_51 2 rfl rfl ?_
      refine gx_dup C dM_leaves_52 rfl ?_
      refine gx_get C mo_this hi_M 14 (by decide) fl_M_85 rfl dM_leaves_53 ?_
      refine gx_iconst (v := 1) C dM_leaves_56 (by decide) ?_
      refine gx_isub C dM_leaves_57 ?_
      refine gx_put C mo_this hi_M tyM tyM_ok nmM 14 (by decide) fl_M_85 rfl (by decide +kernel) (Nat.le_of_ble_eq_true rfl) (mp_going _ _) dM_leaves_58 (fun S6 eS6 => ?_)
      replace hs := hs S6 eS6
      refine gx_aload_n C dM_leaves_61 2 rfl rfl ?_
      refine gx_iload_n C dM_leaves_62 1 rfl rfl ?_
      refine gx_callv (As := [.int y1]) (rest := []) C (mt_M_takeAway l dC dI cI cZ o  _ _ _ hs) (gx_cwV C 1 ln_M_92 im_M_takeAway se_M_takeAway in_CountedObjectsModel cd_M_takeAway rfl rfl (by decide +kernel) ⟨Nat.le_of_ble_eq_true rfl, Nat.le_of_ble_eq_true rfl⟩) mo_this rfl (Nat.le_of_ble_eq_true rfl) dM_leaves_63 (fun S1 => mw_ad _ S1) rfl (fun S7 hs => ?_)
      refine gx_goto C dM_leaves_66 102 rfl ?_
      refine gx_goto C dM_leaves_102 10 rfl ?_
      exact gx_sub [2, 3] rfl hs
set_option maxHeartbeats 4000000 in
set_option maxRecDepth 100000 in
theorem mt_M_leaves (l : Launch) (dC : Nat → ClassId) (dI : Nat → Nat → Nat) (cI cZ : ClassId) (o : Nat → Nat) (v1 : Int32) (S : GS) (post : GS → Prop) (h : wp_M_leaves [v1] S post) : MetV l yM_leaves (Cond.code yM_leaves cM_leaves 4 none :: wsA) ({ frames := 2, cells := 0, slots := 0, locals := 43 }) (dC, dI) gx_cl [(cI, .int), (cZ, .boolean)] (mw cI cZ o) [.ref (o 0), .int v1] S post := by
  refine gx_metV (by decide) wsA_good (Nat.le_of_ble_eq_true rfl) ?_
  intro p e s m args below meth c A C hr hlocks
  refine h (vh_M_leaves o (GV p l e ({ frames := 2, cells := 0, slots := 0, locals := 43 }) s m args below meth c (MQ below (va_Qv post (GB (mw cI cZ o) (dC, dI) gx_cl [(cI, .int), (cZ, .boolean)] A) A) args s 0 0 A) 4 (dC, dI) gx_cl A (mw cI cZ o))) (fun h S xs hs => ?_)
  unfold sp_M_leaves at hs
  split at hs
  · exact wk_M_leaves_0 C hr hlocks _ _ hs
  · exact wk_M_leaves_10 C hr hlocks _ _ hs
  · exact hs.elim
/-- CountedObjectsModel.replace(II)I: a step from head to head -/
def sp_M_replace (post : Int32 → GS → Prop) (V : Nat → GS → List Int32 → Prop) (h : Nat) (S : GS) (xs : List Int32) : Prop := match h, xs with
  | 0, [v1, v2] => wp_M_comes  [v2] S (fun S1 => wp_M_leaves  [v1] S1 (fun S3 => post v1 S3))
  | _, _ => False
def wp_M_replace (xs : List Int32) (S : GS) (post : Int32 → GS → Prop) : Prop := ∀ V : Nat → GS → List Int32 → Prop, (∀ h S xs, sp_M_replace post V h S xs → V h S xs) → V 0 S xs
def vh_M_replace (o : Nat → Nat) (G : GS → Nat → List (Nat × Value) → List Value → Prop) (h : Nat) (S : GS) (xs : List Int32) : Prop := match h, xs with
  | 0, [v1, v2] => G S 0 [(0, .ref (o 0)), (1, .int v1), (2, .int v2)] []
  | _, _ => True
set_option maxHeartbeats 4000000 in
set_option maxRecDepth 100000 in
theorem wk_M_replace_0 {l : Launch} {dC : Nat → ClassId} {dI : Nat → Nat → Nat} {cI cZ : ClassId} {o : Nat → Nat}  {p : Program} {e : Env} {s : State} {m : MethodId} {args : Array Value} {below : List Frame} {meth : Method} {c : Code} {A : Nat → Prop} {post : Int32 → GS → Prop} (C : GC p s m args c cM_replace 3 RM wsA (dC, dI) gx_cl [(cI, .int), (cZ, .boolean)] A) (hr : meth.sig.returnType = (some .int)) (hlocks : meth.locks = false) (S : GS) (v1 : Int32) (v2 : Int32) (hs : sp_M_replace post (vh_M_replace o (GV p l e ({ frames := 3, cells := 0, slots := 0, locals := 66 }) s m args below meth c (MQ below (va_Qi post (GB (mw cI cZ o) (dC, dI) gx_cl [(cI, .int), (cZ, .boolean)] A) A) args s 0 0 A) 3 (dC, dI) gx_cl A (mw cI cZ o))) 0 S [v1, v2]) : GV p l e ({ frames := 3, cells := 0, slots := 0, locals := 66 }) s m args below meth c (MQ below (va_Qi post (GB (mw cI cZ o) (dC, dI) gx_cl [(cI, .int), (cZ, .boolean)] A) A) args s 0 0 A) 3 (dC, dI) gx_cl A (mw cI cZ o) S 0 [(0, .ref (o 0)), (1, .int v1), (2, .int v2)] [] := by
  refine gx_aload_n C dM_replace_0 0 rfl rfl ?_
  refine gx_iload_n C dM_replace_1 2 rfl rfl ?_
  refine gx_callv (As := [.int v2]) (rest := []) C (mt_M_comes l dC dI cI cZ o  _ _ _ hs) (gx_cwV C 1 ln_M_95 im_M_comes se_M_comes in_CountedObjectsModel cd_M_comes rfl rfl (by decide +kernel) ⟨Nat.le_of_ble_eq_true rfl, Nat.le_of_ble_eq_true rfl⟩) mo_this rfl (Nat.le_of_ble_eq_true rfl) dM_replace_2 (fun S1 => mw_ad _ S1) rfl (fun S1 hs => ?_)
  refine gx_aload_n C dM_replace_5 0 rfl rfl ?_
  refine gx_iload_n C dM_replace_6 1 rfl rfl ?_
  refine gx_callv (As := [.int v1]) (rest := []) C (mt_M_leaves l dC dI cI cZ o  _ _ _ hs) (gx_cwV C 1 ln_M_98 im_M_leaves se_M_leaves in_CountedObjectsModel cd_M_leaves rfl rfl (by decide +kernel) ⟨Nat.le_of_ble_eq_true rfl, Nat.le_of_ble_eq_true rfl⟩) mo_this rfl (Nat.le_of_ble_eq_true rfl) dM_replace_7 (fun S1 => mw_ad _ S1) rfl (fun S3 hs => ?_)
  refine gx_iload_n C dM_replace_10 1 rfl rfl ?_
  exact gx_iret C hr hlocks dM_replace_11 hs
set_option maxHeartbeats 4000000 in
set_option maxRecDepth 100000 in
theorem mt_M_replace (l : Launch) (dC : Nat → ClassId) (dI : Nat → Nat → Nat) (cI cZ : ClassId) (o : Nat → Nat) (v1 : Int32) (v2 : Int32) (S : GS) (post : Int32 → GS → Prop) (h : wp_M_replace [v1, v2] S post) : MetI l yM_replace (Cond.code yM_replace cM_replace 3 (some .int) :: wsA) ({ frames := 3, cells := 0, slots := 0, locals := 66 }) (dC, dI) gx_cl [(cI, .int), (cZ, .boolean)] (mw cI cZ o) [.ref (o 0), .int v1, .int v2] S post := by
  refine gx_metI (by decide) wsA_good (Nat.le_of_ble_eq_true rfl) ?_
  intro p e s m args below meth c A C hr hlocks
  refine h (vh_M_replace o (GV p l e ({ frames := 3, cells := 0, slots := 0, locals := 66 }) s m args below meth c (MQ below (va_Qi post (GB (mw cI cZ o) (dC, dI) gx_cl [(cI, .int), (cZ, .boolean)] A) A) args s 0 0 A) 3 (dC, dI) gx_cl A (mw cI cZ o))) (fun h S xs hs => ?_)
  unfold sp_M_replace at hs
  split at hs
  · exact wk_M_replace_0 C hr hlocks _ _ _ hs
  · exact hs.elim
/-- CountedObjectsModel.reach(I)Z: a step from head to head -/
def sp_M_reach (post : Int32 → GS → Prop) (V : Nat → GS → List Int32 → Prop) (h : Nat) (S : GS) (xs : List Int32) : Prop := match h, xs with
  | 0, [v1] => wp_M_leads  [v1] S (fun r2 S1 => ((r2 = 0 → ∀ y3 : Int32, y3 = 0 → ((y3 = 0 → (narrow .boolean (.int y3) = .int y3 ∧ post y3 S1)) ∧ (¬ y3 = 0 → (vp_in (v1 / 2) 41 ∧ ∀ S4 : GS, S4 = gx_set 11 (v1 / 2).toNatClampNeg 1 S1 → (narrow .boolean (.int y3) = .int y3 ∧ post y3 S4))))) ∧ (¬ r2 = 0 → (vp_in (v1 / 2) 41 ∧ ((¬ (S1 11 (v1 / 2).toNatClampNeg) = 0 → ∀ y5 : Int32, y5 = 0 → ((y5 = 0 → (narrow .boolean (.int y5) = .int y5 ∧ post y5 S1)) ∧ (¬ y5 = 0 → (vp_in (v1 / 2) 41 ∧ ∀ S6 : GS, S6 = gx_set 11 (v1 / 2).toNatClampNeg 1 S1 → (narrow .boolean (.int y5) = .int y5 ∧ post y5 S6))))) ∧ ((S1 11 (v1 / 2).toNatClampNeg) = 0 → ∀ y7 : Int32, y7 = 1 → ((y7 = 0 → (narrow .boolean (.int y7) = .int y7 ∧ post y7 S1)) ∧ (¬ y7 = 0 → (vp_in (v1 / 2) 41 ∧ ∀ S8 : GS, S8 = gx_set 11 (v1 / 2).toNatClampNeg 1 S1 → (narrow .boolean (.int y7) = .int y7 ∧ post y7 S8))))))))))
  | _, _ => False
def wp_M_reach (xs : List Int32) (S : GS) (post : Int32 → GS → Prop) : Prop := ∀ V : Nat → GS → List Int32 → Prop, (∀ h S xs, sp_M_reach post V h S xs → V h S xs) → V 0 S xs
def vh_M_reach (o : Nat → Nat) (G : GS → Nat → List (Nat × Value) → List Value → Prop) (h : Nat) (S : GS) (xs : List Int32) : Prop := match h, xs with
  | 0, [v1] => G S 0 [(0, .ref (o 0)), (1, .int v1)] []
  | _, _ => True
set_option maxHeartbeats 4000000 in
set_option maxRecDepth 100000 in
theorem wk_M_reach_0 {l : Launch} {dC : Nat → ClassId} {dI : Nat → Nat → Nat} {cI cZ : ClassId} {o : Nat → Nat}  {p : Program} {e : Env} {s : State} {m : MethodId} {args : Array Value} {below : List Frame} {meth : Method} {c : Code} {A : Nat → Prop} {post : Int32 → GS → Prop} (C : GC p s m args c cM_reach 3 RM wsA (dC, dI) gx_cl [(cI, .int), (cZ, .boolean)] A) (hr : meth.sig.returnType = (some .boolean)) (hlocks : meth.locks = false) (S : GS) (v1 : Int32) (hs : sp_M_reach post (vh_M_reach o (GV p l e ({ frames := 1, cells := 0, slots := 0, locals := 20 }) s m args below meth c (MQ below (va_Qi post (GB (mw cI cZ o) (dC, dI) gx_cl [(cI, .int), (cZ, .boolean)] A) A) args s 0 0 A) 3 (dC, dI) gx_cl A (mw cI cZ o))) 0 S [v1]) : GV p l e ({ frames := 1, cells := 0, slots := 0, locals := 20 }) s m args below meth c (MQ below (va_Qi post (GB (mw cI cZ o) (dC, dI) gx_cl [(cI, .int), (cZ, .boolean)] A) A) args s 0 0 A) 3 (dC, dI) gx_cl A (mw cI cZ o) S 0 [(0, .ref (o 0)), (1, .int v1)] [] := by
  refine gx_iload_n C dM_reach_0 1 rfl rfl ?_
  refine gx_calls (As := [.int v1]) (rest := []) C (mt_M_leads l dC dI cI cZ o  _ _ _ hs) (gx_cwS C 1 ln_M_61 sm_M_leads in_CountedObjectsModel cd_M_leads rfl rfl (by decide +kernel) ⟨Nat.le_of_ble_eq_true rfl, Nat.le_of_ble_eq_true rfl⟩) rfl (Nat.le_of_ble_eq_true rfl) dM_reach_1 (fun S1 => mw_ad _ S1) rfl (fun r2 S1 hs => ?_)
  obtain ⟨ht, hf⟩ := hs
  refine gx_if_eq C dM_reach_4 22 rfl (fun hc => ?_) (fun hc => ?_)
  · have hs := ht hc
    refine gx_iconst (v := 0) C dM_reach_22 (by decide) ?_
    refine gx_top (fun y3 ey3 => ?_)
    replace hs := hs y3 ey3
    refine gx_istore_n (L' := [(2, .int y3), (0, .ref (o 0)), (1, .int v1)]) C dM_reach_23 rfl (by decide) rfl ?_
    refine gx_iload_n C dM_reach_24 0 rfl rfl ?_
    obtain ⟨ht, hf⟩ := hs
    refine gx_if_eq C dM_reach_25 37 rfl (fun hc => ?_) (fun hc => ?_)
    · have hs := ht hc
      refine gx_iload_n C dM_reach_37 0 rfl rfl ?_
      exact gx_zret C hr hlocks dM_reach_38 hs.2 hs.1
    · have hs := hf hc
      refine gx_aload_n C dM_reach_28 1 rfl rfl ?_
      refine gx_get C mo_this hi_M 17 (by decide) fl_M_44 rfl dM_reach_29 ?_
      refine gx_iload_n C dM_reach_32 2 rfl rfl ?_
      refine gx_iconst (v := 2) C dM_reach_33 (by decide) ?_
      refine gx_idiv C dM_reach_34 (by decide) ?_
      refine gx_iconst (v := 1) C dM_reach_35 (by decide) ?_
      obtain ⟨hin, hs⟩ := hs
      refine gx_zast C ma_reached hin (by decide) dM_reach_36 (fun S4 eS4 => ?_)
      replace hs := hs S4 eS4
      refine gx_iload_n C dM_reach_37 0 rfl rfl ?_
      exact gx_zret C hr hlocks dM_reach_38 hs.2 hs.1
  · have hs := hf hc
    refine gx_aload_n C dM_reach_7 0 rfl rfl ?_
    refine gx_get C mo_this hi_M 17 (by decide) fl_M_44 rfl dM_reach_8 ?_
    refine gx_iload_n C dM_reach_11 1 rfl rfl ?_
    refine gx_iconst (v := 2) C dM_reach_12 (by decide) ?_
    refine gx_idiv C dM_reach_13 (by decide) ?_
    obtain ⟨hin, hs⟩ := hs
    refine gx_zald C ma_reached hin dM_reach_14 ?_
    obtain ⟨ht, hf⟩ := hs
    refine gx_if_ne C dM_reach_15 22 rfl (fun hc => ?_) (fun hc => ?_)
    · have hs := ht hc
      refine gx_iconst (v := 0) C dM_reach_22 (by decide) ?_
      refine gx_top (fun y5 ey5 => ?_)
      replace hs := hs y5 ey5
      refine gx_istore_n (L' := [(2, .int y5), (0, .ref (o 0)), (1, .int v1)]) C dM_reach_23 rfl (by decide) rfl ?_
      refine gx_iload_n C dM_reach_24 0 rfl rfl ?_
      obtain ⟨ht, hf⟩ := hs
      refine gx_if_eq C dM_reach_25 37 rfl (fun hc => ?_) (fun hc => ?_)
      · have hs := ht hc
        refine gx_iload_n C dM_reach_37 0 rfl rfl ?_
        exact gx_zret C hr hlocks dM_reach_38 hs.2 hs.1
      · have hs := hf hc
        refine gx_aload_n C dM_reach_28 1 rfl rfl ?_
        refine gx_get C mo_this hi_M 17 (by decide) fl_M_44 rfl dM_reach_29 ?_
        refine gx_iload_n C dM_reach_32 2 rfl rfl ?_
        refine gx_iconst (v := 2) C dM_reach_33 (by decide) ?_
        refine gx_idiv C dM_reach_34 (by decide) ?_
        refine gx_iconst (v := 1) C dM_reach_35 (by decide) ?_
        obtain ⟨hin, hs⟩ := hs
        refine gx_zast C ma_reached hin (by decide) dM_reach_36 (fun S6 eS6 => ?_)
        replace hs := hs S6 eS6
        refine gx_iload_n C dM_reach_37 0 rfl rfl ?_
        exact gx_zret C hr hlocks dM_reach_38 hs.2 hs.1
    · have hs := hf hc
      refine gx_iconst (v := 1) C dM_reach_18 (by decide) ?_
      refine gx_goto C dM_reach_19 23 rfl ?_
      refine gx_top (fun y7 ey7 => ?_)
      replace hs := hs y7 ey7
      refine gx_istore_n (L' := [(2, .int y7), (0, .ref (o 0)), (1, .int v1)]) C dM_reach_23 rfl (by decide) rfl ?_
      refine gx_iload_n C dM_reach_24 0 rfl rfl ?_
      obtain ⟨ht, hf⟩ := hs
      refine gx_if_eq C dM_reach_25 37 rfl (fun hc => ?_) (fun hc => ?_)
      · have hs := ht hc
        refine gx_iload_n C dM_reach_37 0 rfl rfl ?_
        exact gx_zret C hr hlocks dM_reach_38 hs.2 hs.1
      · have hs := hf hc
        refine gx_aload_n C dM_reach_28 1 rfl rfl ?_
        refine gx_get C mo_this hi_M 17 (by decide) fl_M_44 rfl dM_reach_29 ?_
        refine gx_iload_n C dM_reach_32 2 rfl rfl ?_
        refine gx_iconst (v := 2) C dM_reach_33 (by decide) ?_
        refine gx_idiv C dM_reach_34 (by decide) ?_
        refine gx_iconst (v := 1) C dM_reach_35 (by decide) ?_
        obtain ⟨hin, hs⟩ := hs
        refine gx_zast C ma_reached hin (by decide) dM_reach_36 (fun S8 eS8 => ?_)
        replace hs := hs S8 eS8
        refine gx_iload_n C dM_reach_37 0 rfl rfl ?_
        exact gx_zret C hr hlocks dM_reach_38 hs.2 hs.1
set_option maxHeartbeats 4000000 in
set_option maxRecDepth 100000 in
theorem mt_M_reach (l : Launch) (dC : Nat → ClassId) (dI : Nat → Nat → Nat) (cI cZ : ClassId) (o : Nat → Nat) (v1 : Int32) (S : GS) (post : Int32 → GS → Prop) (h : wp_M_reach [v1] S post) : MetI l yM_reach (Cond.code yM_reach cM_reach 3 (some .boolean) :: wsA) ({ frames := 1, cells := 0, slots := 0, locals := 20 }) (dC, dI) gx_cl [(cI, .int), (cZ, .boolean)] (mw cI cZ o) [.ref (o 0), .int v1] S post := by
  refine gx_metI (by decide) wsA_good (Nat.le_of_ble_eq_true rfl) ?_
  intro p e s m args below meth c A C hr hlocks
  refine h (vh_M_reach o (GV p l e ({ frames := 1, cells := 0, slots := 0, locals := 20 }) s m args below meth c (MQ below (va_Qi post (GB (mw cI cZ o) (dC, dI) gx_cl [(cI, .int), (cZ, .boolean)] A) A) args s 0 0 A) 3 (dC, dI) gx_cl A (mw cI cZ o))) (fun h S xs hs => ?_)
  unfold sp_M_reach at hs
  split at hs
  · exact wk_M_reach_0 C hr hlocks _ _ hs
  · exact hs.elim
/-- CountedObjectsModel.spread(I)Z: a step from head to head -/
def sp_M_spread (post : Int32 → GS → Prop) (V : Nat → GS → List Int32 → Prop) (h : Nat) (S : GS) (xs : List Int32) : Prop := match h, xs with
  | 0, [v1] => ∀ y1 : Int32, y1 = 0 → ∀ y2 : Int32, y2 = 0 → V 4 S [v1, y1, y2]
  | 4, [v1, v2, v3] => (vp_in v1 41 ∧ (((S 3 (v1).toNatClampNeg) < v3 → (narrow .boolean (.int v2) = .int v2 ∧ post v2 S)) ∧ (¬ (S 3 (v1).toNatClampNeg) < v3 → (vp_in v1 41 ∧ (vp_in (((S 2 (v1).toNatClampNeg) + 1) + v3) 400 ∧ wp_M_reach  [S 5 (((S 2 (v1).toNatClampNeg) + 1) + v3).toNatClampNeg] S (fun r2 S1 => ((¬ v2 = 0 → ∀ y3 : Int32, y3 = 1 → (∀ y4 : Int32, y4 = v3 + 1 → V 4 S1 [v1, y3, y4])) ∧ (v2 = 0 → ((r2 = 0 → ∀ y5 : Int32, y5 = 0 → (∀ y6 : Int32, y6 = v3 + 1 → V 4 S1 [v1, y5, y6])) ∧ (¬ r2 = 0 → ∀ y7 : Int32, y7 = 1 → (∀ y8 : Int32, y8 = v3 + 1 → V 4 S1 [v1, y7, y8])))))))))))
  | _, _ => False
def wp_M_spread (xs : List Int32) (S : GS) (post : Int32 → GS → Prop) : Prop := ∀ V : Nat → GS → List Int32 → Prop, (∀ h S xs, sp_M_spread post V h S xs → V h S xs) → V 0 S xs
def vh_M_spread (o : Nat → Nat) (G : GS → Nat → List (Nat × Value) → List Value → Prop) (h : Nat) (S : GS) (xs : List Int32) : Prop := match h, xs with
  | 0, [v1] => G S 0 [(0, .ref (o 0)), (1, .int v1)] []
  | 4, [v1, v2, v3] => G S 4 [(0, .ref (o 0)), (1, .int v1), (2, .int v2), (3, .int v3)] []
  | _, _ => True
set_option maxHeartbeats 4000000 in
set_option maxRecDepth 100000 in
theorem wk_M_spread_0 {l : Launch} {dC : Nat → ClassId} {dI : Nat → Nat → Nat} {cI cZ : ClassId} {o : Nat → Nat}  {p : Program} {e : Env} {s : State} {m : MethodId} {args : Array Value} {below : List Frame} {meth : Method} {c : Code} {A : Nat → Prop} {post : Int32 → GS → Prop} (C : GC p s m args c cM_spread 5 RM wsA (dC, dI) gx_cl [(cI, .int), (cZ, .boolean)] A) (hr : meth.sig.returnType = (some .boolean)) (hlocks : meth.locks = false) (S : GS) (v1 : Int32) (hs : sp_M_spread post (vh_M_spread o (GV p l e ({ frames := 2, cells := 0, slots := 0, locals := 42 }) s m args below meth c (MQ below (va_Qi post (GB (mw cI cZ o) (dC, dI) gx_cl [(cI, .int), (cZ, .boolean)] A) A) args s 0 0 A) 5 (dC, dI) gx_cl A (mw cI cZ o))) 0 S [v1]) : GV p l e ({ frames := 2, cells := 0, slots := 0, locals := 42 }) s m args below meth c (MQ below (va_Qi post (GB (mw cI cZ o) (dC, dI) gx_cl [(cI, .int), (cZ, .boolean)] A) A) args s 0 0 A) 5 (dC, dI) gx_cl A (mw cI cZ o) S 0 [(0, .ref (o 0)), (1, .int v1)] [] := by
  refine gx_iconst (v := 0) C dM_spread_0 (by decide) ?_
  refine gx_top (fun y1 ey1 => ?_)
  replace hs := hs y1 ey1
  refine gx_istore_n (L' := [(2, .int y1), (0, .ref (o 0)), (1, .int v1)]) C dM_spread_1 rfl (by decide) rfl ?_
  refine gx_iconst (v := 0) C dM_spread_2 (by decide) ?_
  refine gx_top (fun y2 ey2 => ?_)
  replace hs := hs y2 ey2
  refine gx_istore_n (L' := [(3, .int y2), (2, .int y1), (0, .ref (o 0)), (1, .int v1)]) C dM_spread_3 rfl (by decide) rfl ?_
  exact gx_sub [2, 3, 1, 0] rfl hs
set_option maxHeartbeats 4000000 in
set_option maxRecDepth 100000 in
theorem wk_M_spread_4 {l : Launch} {dC : Nat → ClassId} {dI : Nat → Nat → Nat} {cI cZ : ClassId} {o : Nat → Nat}  {p : Program} {e : Env} {s : State} {m : MethodId} {args : Array Value} {below : List Frame} {meth : Method} {c : Code} {A : Nat → Prop} {post : Int32 → GS → Prop} (C : GC p s m args c cM_spread 5 RM wsA (dC, dI) gx_cl [(cI, .int), (cZ, .boolean)] A) (hr : meth.sig.returnType = (some .boolean)) (hlocks : meth.locks = false) (S : GS) (v1 : Int32) (v2 : Int32) (v3 : Int32) (hs : sp_M_spread post (vh_M_spread o (GV p l e ({ frames := 2, cells := 0, slots := 0, locals := 42 }) s m args below meth c (MQ below (va_Qi post (GB (mw cI cZ o) (dC, dI) gx_cl [(cI, .int), (cZ, .boolean)] A) A) args s 0 0 A) 5 (dC, dI) gx_cl A (mw cI cZ o))) 4 S [v1, v2, v3]) : GV p l e ({ frames := 2, cells := 0, slots := 0, locals := 42 }) s m args below meth c (MQ below (va_Qi post (GB (mw cI cZ o) (dC, dI) gx_cl [(cI, .int), (cZ, .boolean)] A) A) args s 0 0 A) 5 (dC, dI) gx_cl A (mw cI cZ o) S 4 [(0, .ref (o 0)), (1, .int v1), (2, .int v2), (3, .int v3)] [] := by
  refine gx_iload_n C dM_spread_4 3 rfl rfl ?_
  refine gx_aload_n C dM_spread_5 0 rfl rfl ?_
  refine gx_get C mo_this hi_M 6 (by decide) fl_M_20 rfl dM_spread_6 ?_
  refine gx_iload_n C dM_spread_9 1 rfl rfl ?_
  obtain ⟨hin, hs⟩ := hs
  refine gx_iald C ma_sizes hin dM_spread_10 ?_
  obtain ⟨ht, hf⟩ := hs
  refine gx_icmp_gt C dM_spread_11 56 rfl (fun hc => ?_) (fun hc => ?_)
  · have hs := ht hc
    refine gx_iload_n C dM_spread_56 2 rfl rfl ?_
    exact gx_zret C hr hlocks dM_spread_57 hs.2 hs.1
  · have hs := hf hc
    refine gx_aload_n C dM_spread_14 0 rfl rfl ?_
    refine gx_aload_n C dM_spread_15 0 rfl rfl ?_
    refine gx_get C mo_this hi_M 8 (by decide) fl_M_26 rfl dM_spread_16 ?_
    refine gx_aload_n C dM_spread_19 0 rfl rfl ?_
    refine gx_get C mo_this hi_M 5 (by decide) fl_M_17 rfl dM_spread_20 ?_
    refine gx_iload_n C dM_spread_23 1 rfl rfl ?_
    obtain ⟨hin, hs⟩ := hs
    refine gx_iald C ma_addresses hin dM_spread_24 ?_
    refine gx_iconst (v := 1) C dM_spread_25 (by decide) ?_
    refine gx_iadd C dM_spread_26 ?_
    refine gx_iload_n C dM_spread_27 3 rfl rfl ?_
    refine gx_iadd C dM_spread_28 ?_
    obtain ⟨hin, hs⟩ := hs
    refine gx_iald C ma_word hin dM_spread_29 ?_
    refine gx_calli (As := [.int (S 5 (((S 2 (v1).toNatClampNeg) + 1) + v3).toNatClampNeg)]) (rest := []) C (mt_M_reach l dC dI cI cZ o  _ _ _ hs) (gx_cwV C 1 ln_M_101 im_M_reach se_M_reach in_CountedObjectsModel cd_M_reach rfl rfl (by decide +kernel) ⟨Nat.le_of_ble_eq_true rfl, Nat.le_of_ble_eq_true rfl⟩) mo_this rfl (Nat.le_of_ble_eq_true rfl) dM_spread_30 (fun S1 => mw_ad _ S1) rfl (fun r2 S1 hs => ?_)
    refine gx_istore (L' := [(4, .int r2), (0, .ref (o 0)), (1, .int v1), (2, .int v2), (3, .int v3)]) C dM_spread_33 (by decide) rfl ?_
    refine gx_iload_n C dM_spread_35 3 rfl rfl ?_
    obtain ⟨ht, hf⟩ := hs
    refine gx_if_ne C dM_spread_36 44 rfl (fun hc => ?_) (fun hc => ?_)
    · have hs := ht hc
      refine gx_iconst (v := 1) C dM_spread_44 (by decide) ?_
      refine gx_goto C dM_spread_45 49 rfl ?_
      refine gx_top (fun y3 ey3 => ?_)
      replace hs := hs y3 ey3
      refine gx_istore_n (L' := [(2, .int y3), (4, .int r2), (0, .ref (o 0)), (1, .int v1), (3, .int v3)]) C dM_spread_49 rfl (by decide) rfl ?_
      refine gx_iinc (v0 := 1) (f := fun v => [(3, .int v), (2, .int y3), (4, .int r2), (0, .ref (o 0)), (1, .int v1)]) C dM_spread_50 4 rfl (by decide) (by decide) (fun _ => rfl) (fun y4 ey4 => ?_)
      replace hs := hs y4 ey4
      refine gx_goto C dM_spread_53 4 rfl ?_
      exact gx_sub [3, 4, 1, 0] rfl hs
    · have hs := hf hc
      refine gx_iload C dM_spread_39 0 rfl ?_
      obtain ⟨ht, hf⟩ := hs
      refine gx_if_eq C dM_spread_41 48 rfl (fun hc => ?_) (fun hc => ?_)
      · have hs := ht hc
        refine gx_iconst (v := 0) C dM_spread_48 (by decide) ?_
        refine gx_top (fun y5 ey5 => ?_)
        replace hs := hs y5 ey5
        refine gx_istore_n (L' := [(2, .int y5), (4, .int r2), (0, .ref (o 0)), (1, .int v1), (3, .int v3)]) C dM_spread_49 rfl (by decide) rfl ?_
        refine gx_iinc (v0 := 1) (f := fun v => [(3, .int v), (2, .int y5), (4, .int r2), (0, .ref (o 0)), (1, .int v1)]) C dM_spread_50 4 rfl (by decide) (by decide) (fun _ => rfl) (fun y6 ey6 => ?_)
        replace hs := hs y6 ey6
        refine gx_goto C dM_spread_53 4 rfl ?_
        exact gx_sub [3, 4, 1, 0] rfl hs
      · have hs := hf hc
        refine gx_iconst (v := 1) C dM_spread_44 (by decide) ?_
        refine gx_goto C dM_spread_45 49 rfl ?_
        refine gx_top (fun y7 ey7 => ?_)
        replace hs := hs y7 ey7
        refine gx_istore_n (L' := [(2, .int y7), (4, .int r2), (0, .ref (o 0)), (1, .int v1), (3, .int v3)]) C dM_spread_49 rfl (by decide) rfl ?_
        refine gx_iinc (v0 := 1) (f := fun v => [(3, .int v), (2, .int y7), (4, .int r2), (0, .ref (o 0)), (1, .int v1)]) C dM_spread_50 4 rfl (by decide) (by decide) (fun _ => rfl) (fun y8 ey8 => ?_)
        replace hs := hs y8 ey8
        refine gx_goto C dM_spread_53 4 rfl ?_
        exact gx_sub [3, 4, 1, 0] rfl hs
set_option maxHeartbeats 4000000 in
set_option maxRecDepth 100000 in
theorem mt_M_spread (l : Launch) (dC : Nat → ClassId) (dI : Nat → Nat → Nat) (cI cZ : ClassId) (o : Nat → Nat) (v1 : Int32) (S : GS) (post : Int32 → GS → Prop) (h : wp_M_spread [v1] S post) : MetI l yM_spread (Cond.code yM_spread cM_spread 5 (some .boolean) :: wsA) ({ frames := 2, cells := 0, slots := 0, locals := 42 }) (dC, dI) gx_cl [(cI, .int), (cZ, .boolean)] (mw cI cZ o) [.ref (o 0), .int v1] S post := by
  refine gx_metI (by decide) wsA_good (Nat.le_of_ble_eq_true rfl) ?_
  intro p e s m args below meth c A C hr hlocks
  refine h (vh_M_spread o (GV p l e ({ frames := 2, cells := 0, slots := 0, locals := 42 }) s m args below meth c (MQ below (va_Qi post (GB (mw cI cZ o) (dC, dI) gx_cl [(cI, .int), (cZ, .boolean)] A) A) args s 0 0 A) 5 (dC, dI) gx_cl A (mw cI cZ o))) (fun h S xs hs => ?_)
  unfold sp_M_spread at hs
  split at hs
  · exact wk_M_spread_0 C hr hlocks _ _ hs
  · exact wk_M_spread_4 C hr hlocks _ _ _ _ hs
  · exact hs.elim
/-- CountedObjectsModel.gather(I)I: a step from head to head -/
def sp_M_gather (post : Int32 → GS → Prop) (V : Nat → GS → List Int32 → Prop) (h : Nat) (S : GS) (xs : List Int32) : Prop := match h, xs with
  | 0, [v1] => ∀ y1 : Int32, y1 = 1 → V 2 S [v1, y1]
  | 2, [v1, v2] => (((S 100 2) < v2 → wp_M_reach  [v1] S (fun r2 S1 => ∀ y3 : Int32, y3 = 0 → V 31 S1 [v1, r2, y3])) ∧ (¬ (S 100 2) < v2 → (vp_in v2 41 ∧ ∀ S4 : GS, S4 = gx_set 11 (v2).toNatClampNeg 0 S → (∀ y5 : Int32, y5 = v2 + 1 → V 2 S4 [v1, y5]))))
  | 31, [v1, v2, v3] => ((8 ≤ v3 → V 70 S [v1, v2, v3]) ∧ (¬ 8 ≤ v3 → (vp_in v3 8 ∧ wp_M_reach  [S 0 (v3).toNatClampNeg] S (fun r2 S1 => ((¬ v2 = 0 → ∀ y3 : Int32, y3 = 1 → (∀ y4 : Int32, y4 = v3 + 1 → V 31 S1 [v1, y3, y4])) ∧ (v2 = 0 → ((r2 = 0 → ∀ y5 : Int32, y5 = 0 → (∀ y6 : Int32, y6 = v3 + 1 → V 31 S1 [v1, y5, y6])) ∧ (¬ r2 = 0 → ∀ y7 : Int32, y7 = 1 → (∀ y8 : Int32, y8 = v3 + 1 → V 31 S1 [v1, y7, y8])))))))))
  | 70, [v1, v2, v3] => ((v2 = 0 → ∀ y1 : Int32, y1 = 0 → ∀ y2 : Int32, y2 = 1 → V 148 S [v1, v2, y1, y2]) ∧ (¬ v2 = 0 → ∀ y3 : Int32, y3 = 0 → ∀ y4 : Int32, y4 = 1 → V 78 S [v1, y3, y4]))
  | 78, [v1, v2, v3] => (((S 100 2) < v3 → V 70 S [v1, v2, v3]) ∧ (¬ (S 100 2) < v3 → (vp_in v3 41 ∧ (((S 1 (v3).toNatClampNeg) = 0 → ∀ y1 : Int32, y1 = 0 → ((¬ v2 = 0 → ∀ y2 : Int32, y2 = 1 → (∀ y3 : Int32, y3 = v3 + 1 → V 78 S [v1, y2, y3])) ∧ (v2 = 0 → ((y1 = 0 → ∀ y4 : Int32, y4 = 0 → (∀ y5 : Int32, y5 = v3 + 1 → V 78 S [v1, y4, y5])) ∧ (¬ y1 = 0 → ∀ y6 : Int32, y6 = 1 → (∀ y7 : Int32, y7 = v3 + 1 → V 78 S [v1, y6, y7])))))) ∧ (¬ (S 1 (v3).toNatClampNeg) = 0 → (vp_in v3 41 ∧ (((S 11 (v3).toNatClampNeg) = 0 → ∀ y8 : Int32, y8 = 0 → ((¬ v2 = 0 → ∀ y9 : Int32, y9 = 1 → (∀ y10 : Int32, y10 = v3 + 1 → V 78 S [v1, y9, y10])) ∧ (v2 = 0 → ((y8 = 0 → ∀ y11 : Int32, y11 = 0 → (∀ y12 : Int32, y12 = v3 + 1 → V 78 S [v1, y11, y12])) ∧ (¬ y8 = 0 → ∀ y13 : Int32, y13 = 1 → (∀ y14 : Int32, y14 = v3 + 1 → V 78 S [v1, y13, y14])))))) ∧ (¬ (S 11 (v3).toNatClampNeg) = 0 → wp_M_spread  [v3] S (fun r16 S15 => ((r16 = 0 → ∀ y17 : Int32, y17 = 0 → ((¬ v2 = 0 → ∀ y18 : Int32, y18 = 1 → (∀ y19 : Int32, y19 = v3 + 1 → V 78 S15 [v1, y18, y19])) ∧ (v2 = 0 → ((y17 = 0 → ∀ y20 : Int32, y20 = 0 → (∀ y21 : Int32, y21 = v3 + 1 → V 78 S15 [v1, y20, y21])) ∧ (¬ y17 = 0 → ∀ y22 : Int32, y22 = 1 → (∀ y23 : Int32, y23 = v3 + 1 → V 78 S15 [v1, y22, y23])))))) ∧ (¬ r16 = 0 → ∀ y24 : Int32, y24 = 1 → ((¬ v2 = 0 → ∀ y25 : Int32, y25 = 1 → (∀ y26 : Int32, y26 = v3 + 1 → V 78 S15 [v1, y25, y26])) ∧ (v2 = 0 → ((y24 = 0 → ∀ y27 : Int32, y27 = 0 → (∀ y28 : Int32, y28 = v3 + 1 → V 78 S15 [v1, y27, y28])) ∧ (¬ y24 = 0 → ∀ y29 : Int32, y29 = 1 → (∀ y30 : Int32, y30 = v3 + 1 → V 78 S15 [v1, y29, y30]))))))))))))))))
  | 148, [v1, v2, v3, v4] => (((S 100 2) < v4 → ∀ y1 : Int32, y1 = 0 → V 203 S [v1, v2, v3, y1]) ∧ (¬ (S 100 2) < v4 → (vp_in v4 41 ∧ ∀ S2 : GS, S2 = gx_set 4 (v4).toNatClampNeg 0 S → (vp_in v4 41 ∧ (((S2 1 (v4).toNatClampNeg) = 0 → (∀ y3 : Int32, y3 = v4 + 1 → V 148 S2 [v1, v2, v3, y3])) ∧ (¬ (S2 1 (v4).toNatClampNeg) = 0 → (vp_in v4 41 ∧ ((¬ (S2 11 (v4).toNatClampNeg) = 0 → (∀ y4 : Int32, y4 = v4 + 1 → V 148 S2 [v1, v2, v3, y4])) ∧ ((S2 11 (v4).toNatClampNeg) = 0 → wp_M_takeAway  [v4] S2 (fun S5 => (∀ y7 : Int32, y7 = v3 + 1 → (∀ y8 : Int32, y8 = v4 + 1 → V 148 S5 [v1, v2, y7, y8]))))))))))))
  | 203, [v1, v2, v3, v4] => ((8 ≤ v4 → ∀ y1 : Int32, y1 = 1 → V 230 S [v1, v2, v3, y1]) ∧ (¬ 8 ≤ v4 → (vp_in v4 8 ∧ wp_M_comes  [S 0 (v4).toNatClampNeg] S (fun S2 => (∀ y4 : Int32, y4 = v4 + 1 → V 203 S2 [v1, v2, v3, y4])))))
  | 230, [v1, v2, v3, v4] => (((S 100 2) < v4 → post v3 S) ∧ (¬ (S 100 2) < v4 → ∀ y1 : Int32, y1 = 0 → V 242 S [v1, v2, v3, v4, y1]))
  | 242, [v1, v2, v3, v4, v5] => (vp_in v4 41 ∧ (((S 1 (v4).toNatClampNeg) = 0 → (∀ y1 : Int32, y1 = v4 + 1 → V 230 S [v1, v2, v3, y1])) ∧ (¬ (S 1 (v4).toNatClampNeg) = 0 → (vp_in v4 41 ∧ (((S 3 (v4).toNatClampNeg) < v5 → (∀ y2 : Int32, y2 = v4 + 1 → V 230 S [v1, v2, v3, y2])) ∧ (¬ (S 3 (v4).toNatClampNeg) < v5 → (vp_in v4 41 ∧ (vp_in (((S 2 (v4).toNatClampNeg) + 1) + v5) 400 ∧ wp_M_comes  [S 5 (((S 2 (v4).toNatClampNeg) + 1) + v5).toNatClampNeg] S (fun S3 => (∀ y5 : Int32, y5 = v5 + 1 → V 242 S3 [v1, v2, v3, v4, y5]))))))))))
  | _, _ => False
def wp_M_gather (xs : List Int32) (S : GS) (post : Int32 → GS → Prop) : Prop := ∀ V : Nat → GS → List Int32 → Prop, (∀ h S xs, sp_M_gather post V h S xs → V h S xs) → V 0 S xs
def vh_M_gather (o : Nat → Nat) (G : GS → Nat → List (Nat × Value) → List Value → Prop) (h : Nat) (S : GS) (xs : List Int32) : Prop := match h, xs with
  | 0, [v1] => G S 0 [(0, .ref (o 0)), (1, .int v1)] []
  | 2, [v1, v2] => G S 2 [(0, .ref (o 0)), (1, .int v1), (2, .int v2)] []
  | 31, [v1, v2, v3] => G S 31 [(0, .ref (o 0)), (1, .int v1), (2, .int v2), (3, .int v3)] []
  | 70, [v1, v2, v3] => G S 70 [(0, .ref (o 0)), (1, .int v1), (2, .int v2), (3, .int v3)] []
  | 78, [v1, v2, v3] => G S 78 [(0, .ref (o 0)), (1, .int v1), (2, .int v2), (3, .int v3)] []
  | 148, [v1, v2, v3, v4] => G S 148 [(0, .ref (o 0)), (1, .int v1), (2, .int v2), (3, .int v3), (4, .int v4)] []
  | 203, [v1, v2, v3, v4] => G S 203 [(0, .ref (o 0)), (1, .int v1), (2, .int v2), (3, .int v3), (4, .int v4)] []
  | 230, [v1, v2, v3, v4] => G S 230 [(0, .ref (o 0)), (1, .int v1), (2, .int v2), (3, .int v3), (4, .int v4)] []
  | 242, [v1, v2, v3, v4, v5] => G S 242 [(0, .ref (o 0)), (1, .int v1), (2, .int v2), (3, .int v3), (4, .int v4), (5, .int v5)] []
  | _, _ => True
set_option maxHeartbeats 4000000 in
set_option maxRecDepth 100000 in
theorem wk_M_gather_0 {l : Launch} {dC : Nat → ClassId} {dI : Nat → Nat → Nat} {cI cZ : ClassId} {o : Nat → Nat}  {p : Program} {e : Env} {s : State} {m : MethodId} {args : Array Value} {below : List Frame} {meth : Method} {c : Code} {A : Nat → Prop} {post : Int32 → GS → Prop} (C : GC p s m args c cM_gather 6 RM wsA (dC, dI) gx_cl [(cI, .int), (cZ, .boolean)] A) (hr : meth.sig.returnType = (some .int)) (hlocks : meth.locks = false) (S : GS) (v1 : Int32) (hs : sp_M_gather post (vh_M_gather o (GV p l e ({ frames := 3, cells := 0, slots := 0, locals := 66 }) s m args below meth c (MQ below (va_Qi post (GB (mw cI cZ o) (dC, dI) gx_cl [(cI, .int), (cZ, .boolean)] A) A) args s 0 0 A) 6 (dC, dI) gx_cl A (mw cI cZ o))) 0 S [v1]) : GV p l e ({ frames := 3, cells := 0, slots := 0, locals := 66 }) s m args below meth c (MQ below (va_Qi post (GB (mw cI cZ o) (dC, dI) gx_cl [(cI, .int), (cZ, .boolean)] A) A) args s 0 0 A) 6 (dC, dI) gx_cl A (mw cI cZ o) S 0 [(0, .ref (o 0)), (1, .int v1)] [] := by
  refine gx_iconst (v := 1) C dM_gather_0 (by decide) ?_
  refine gx_top (fun y1 ey1 => ?_)
  replace hs := hs y1 ey1
  refine gx_istore_n (L' := [(2, .int y1), (0, .ref (o 0)), (1, .int v1)]) C dM_gather_1 rfl (by decide) rfl ?_
  exact gx_sub [1, 2, 0] rfl hs
set_option maxHeartbeats 4000000 in
set_option maxRecDepth 100000 in
theorem wk_M_gather_2 {l : Launch} {dC : Nat → ClassId} {dI : Nat → Nat → Nat} {cI cZ : ClassId} {o : Nat → Nat}  {p : Program} {e : Env} {s : State} {m : MethodId} {args : Array Value} {below : List Frame} {meth : Method} {c : Code} {A : Nat → Prop} {post : Int32 → GS → Prop} (C : GC p s m args c cM_gather 6 RM wsA (dC, dI) gx_cl [(cI, .int), (cZ, .boolean)] A) (hr : meth.sig.returnType = (some .int)) (hlocks : meth.locks = false) (S : GS) (v1 : Int32) (v2 : Int32) (hs : sp_M_gather post (vh_M_gather o (GV p l e ({ frames := 3, cells := 0, slots := 0, locals := 66 }) s m args below meth c (MQ below (va_Qi post (GB (mw cI cZ o) (dC, dI) gx_cl [(cI, .int), (cZ, .boolean)] A) A) args s 0 0 A) 6 (dC, dI) gx_cl A (mw cI cZ o))) 2 S [v1, v2]) : GV p l e ({ frames := 3, cells := 0, slots := 0, locals := 66 }) s m args below meth c (MQ below (va_Qi post (GB (mw cI cZ o) (dC, dI) gx_cl [(cI, .int), (cZ, .boolean)] A) A) args s 0 0 A) 6 (dC, dI) gx_cl A (mw cI cZ o) S 2 [(0, .ref (o 0)), (1, .int v1), (2, .int v2)] [] := by
  refine gx_iload_n C dM_gather_2 2 rfl rfl ?_
  refine gx_aload_n C dM_gather_3 0 rfl rfl ?_
  refine gx_get C mo_this hi_M 2 (by decide) fl_M_51 rfl dM_gather_4 ?_
  obtain ⟨ht, hf⟩ := hs
  refine gx_icmp_gt C dM_gather_7 23 rfl (fun hc => ?_) (fun hc => ?_)
  · have hs := ht hc
    refine gx_aload_n C dM_gather_23 0 rfl rfl ?_
    refine gx_iload_n C dM_gather_24 1 rfl rfl ?_
    refine gx_calli (As := [.int v1]) (rest := []) C (mt_M_reach l dC dI cI cZ o  _ _ _ hs) (gx_cwV C 1 ln_M_101 im_M_reach se_M_reach in_CountedObjectsModel cd_M_reach rfl rfl (by decide +kernel) ⟨Nat.le_of_ble_eq_true rfl, Nat.le_of_ble_eq_true rfl⟩) mo_this rfl (Nat.le_of_ble_eq_true rfl) dM_gather_25 (fun S1 => mw_ad _ S1) rfl (fun r2 S1 hs => ?_)
    refine gx_istore_n (L' := [(2, .int r2), (0, .ref (o 0)), (1, .int v1)]) C dM_gather_28 rfl (by decide) rfl ?_
    refine gx_iconst (v := 0) C dM_gather_29 (by decide) ?_
    refine gx_top (fun y3 ey3 => ?_)
    replace hs := hs y3 ey3
    refine gx_istore_n (L' := [(3, .int y3), (2, .int r2), (0, .ref (o 0)), (1, .int v1)]) C dM_gather_30 rfl (by decide) rfl ?_
    exact gx_sub [2, 3, 1, 0] rfl hs
  · have hs := hf hc
    refine gx_aload_n C dM_gather_10 0 rfl rfl ?_
    refine gx_get C mo_this hi_M 17 (by decide) fl_M_44 rfl dM_gather_11 ?_
    refine gx_iload_n C dM_gather_14 2 rfl rfl ?_
    refine gx_iconst (v := 0) C dM_gather_15 (by decide) ?_
    obtain ⟨hin, hs⟩ := hs
    refine gx_zast C ma_reached hin (by decide) dM_gather_16 (fun S4 eS4 => ?_)
    replace hs := hs S4 eS4
    refine gx_iinc (v0 := 1) (f := fun v => [(2, .int v), (0, .ref (o 0)), (1, .int v1)]) C dM_gather_17 2 rfl (by decide) (by decide) (fun _ => rfl) (fun y5 ey5 => ?_)
    replace hs := hs y5 ey5
    refine gx_goto C dM_gather_20 2 rfl ?_
    exact gx_sub [1, 2, 0] rfl hs
set_option maxHeartbeats 4000000 in
set_option maxRecDepth 100000 in
theorem wk_M_gather_31 {l : Launch} {dC : Nat → ClassId} {dI : Nat → Nat → Nat} {cI cZ : ClassId} {o : Nat → Nat}  {p : Program} {e : Env} {s : State} {m : MethodId} {args : Array Value} {below : List Frame} {meth : Method} {c : Code} {A : Nat → Prop} {post : Int32 → GS → Prop} (C : GC p s m args c cM_gather 6 RM wsA (dC, dI) gx_cl [(cI, .int), (cZ, .boolean)] A) (hr : meth.sig.returnType = (some .int)) (hlocks : meth.locks = false) (S : GS) (v1 : Int32) (v2 : Int32) (v3 : Int32) (hs : sp_M_gather post (vh_M_gather o (GV p l e ({ frames := 3, cells := 0, slots := 0, locals := 66 }) s m args below meth c (MQ below (va_Qi post (GB (mw cI cZ o) (dC, dI) gx_cl [(cI, .int), (cZ, .boolean)] A) A) args s 0 0 A) 6 (dC, dI) gx_cl A (mw cI cZ o))) 31 S [v1, v2, v3]) : GV p l e ({ frames := 3, cells := 0, slots := 0, locals := 66 }) s m args below meth c (MQ below (va_Qi post (GB (mw cI cZ o) (dC, dI) gx_cl [(cI, .int), (cZ, .boolean)] A) A) args s 0 0 A) 6 (dC, dI) gx_cl A (mw cI cZ o) S 31 [(0, .ref (o 0)), (1, .int v1), (2, .int v2), (3, .int v3)] [] := by
  refine gx_iload_n C dM_gather_31 3 rfl rfl ?_
  refine gx_bipush (v := 8) C dM_gather_32 (by decide) ?_
  obtain ⟨ht, hf⟩ := hs
  refine gx_icmp_ge C dM_gather_34 70 rfl (fun hc => ?_) (fun hc => ?_)
  · have hs := ht hc
    exact hs
  · have hs := hf hc
    refine gx_aload_n C dM_gather_37 0 rfl rfl ?_
    refine gx_aload_n C dM_gather_38 0 rfl rfl ?_
    refine gx_get C mo_this hi_M 3 (by decide) fl_M_7 rfl dM_gather_39 ?_
    refine gx_iload_n C dM_gather_42 3 rfl rfl ?_
    obtain ⟨hin, hs⟩ := hs
    refine gx_iald C ma_registers hin dM_gather_43 ?_
    refine gx_calli (As := [.int (S 0 (v3).toNatClampNeg)]) (rest := []) C (mt_M_reach l dC dI cI cZ o  _ _ _ hs) (gx_cwV C 1 ln_M_101 im_M_reach se_M_reach in_CountedObjectsModel cd_M_reach rfl rfl (by decide +kernel) ⟨Nat.le_of_ble_eq_true rfl, Nat.le_of_ble_eq_true rfl⟩) mo_this rfl (Nat.le_of_ble_eq_true rfl) dM_gather_44 (fun S1 => mw_ad _ S1) rfl (fun r2 S1 hs => ?_)
    refine gx_istore (L' := [(4, .int r2), (0, .ref (o 0)), (1, .int v1), (2, .int v2), (3, .int v3)]) C dM_gather_47 (by decide) rfl ?_
    refine gx_iload_n C dM_gather_49 3 rfl rfl ?_
    obtain ⟨ht, hf⟩ := hs
    refine gx_if_ne C dM_gather_50 58 rfl (fun hc => ?_) (fun hc => ?_)
    · have hs := ht hc
      refine gx_iconst (v := 1) C dM_gather_58 (by decide) ?_
      refine gx_goto C dM_gather_59 63 rfl ?_
      refine gx_top (fun y3 ey3 => ?_)
      replace hs := hs y3 ey3
      refine gx_istore_n (L' := [(2, .int y3), (4, .int r2), (0, .ref (o 0)), (1, .int v1), (3, .int v3)]) C dM_gather_63 rfl (by decide) rfl ?_
      refine gx_iinc (v0 := 1) (f := fun v => [(3, .int v), (2, .int y3), (4, .int r2), (0, .ref (o 0)), (1, .int v1)]) C dM_gather_64 4 rfl (by decide) (by decide) (fun _ => rfl) (fun y4 ey4 => ?_)
      replace hs := hs y4 ey4
      refine gx_goto C dM_gather_67 31 rfl ?_
      exact gx_sub [3, 4, 1, 0] rfl hs
    · have hs := hf hc
      refine gx_iload C dM_gather_53 0 rfl ?_
      obtain ⟨ht, hf⟩ := hs
      refine gx_if_eq C dM_gather_55 62 rfl (fun hc => ?_) (fun hc => ?_)
      · have hs := ht hc
        refine gx_iconst (v := 0) C dM_gather_62 (by decide) ?_
        refine gx_top (fun y5 ey5 => ?_)
        replace hs := hs y5 ey5
        refine gx_istore_n (L' := [(2, .int y5), (4, .int r2), (0, .ref (o 0)), (1, .int v1), (3, .int v3)]) C dM_gather_63 rfl (by decide) rfl ?_
        refine gx_iinc (v0 := 1) (f := fun v => [(3, .int v), (2, .int y5), (4, .int r2), (0, .ref (o 0)), (1, .int v1)]) C dM_gather_64 4 rfl (by decide) (by decide) (fun _ => rfl) (fun y6 ey6 => ?_)
        replace hs := hs y6 ey6
        refine gx_goto C dM_gather_67 31 rfl ?_
        exact gx_sub [3, 4, 1, 0] rfl hs
      · have hs := hf hc
        refine gx_iconst (v := 1) C dM_gather_58 (by decide) ?_
        refine gx_goto C dM_gather_59 63 rfl ?_
        refine gx_top (fun y7 ey7 => ?_)
        replace hs := hs y7 ey7
        refine gx_istore_n (L' := [(2, .int y7), (4, .int r2), (0, .ref (o 0)), (1, .int v1), (3, .int v3)]) C dM_gather_63 rfl (by decide) rfl ?_
        refine gx_iinc (v0 := 1) (f := fun v => [(3, .int v), (2, .int y7), (4, .int r2), (0, .ref (o 0)), (1, .int v1)]) C dM_gather_64 4 rfl (by decide) (by decide) (fun _ => rfl) (fun y8 ey8 => ?_)
        replace hs := hs y8 ey8
        refine gx_goto C dM_gather_67 31 rfl ?_
        exact gx_sub [3, 4, 1, 0] rfl hs
set_option maxHeartbeats 4000000 in
set_option maxRecDepth 100000 in
theorem wk_M_gather_70 {l : Launch} {dC : Nat → ClassId} {dI : Nat → Nat → Nat} {cI cZ : ClassId} {o : Nat → Nat}  {p : Program} {e : Env} {s : State} {m : MethodId} {args : Array Value} {below : List Frame} {meth : Method} {c : Code} {A : Nat → Prop} {post : Int32 → GS → Prop} (C : GC p s m args c cM_gather 6 RM wsA (dC, dI) gx_cl [(cI, .int), (cZ, .boolean)] A) (hr : meth.sig.returnType = (some .int)) (hlocks : meth.locks = false) (S : GS) (v1 : Int32) (v2 : Int32) (v3 : Int32) (hs : sp_M_gather post (vh_M_gather o (GV p l e ({ frames := 3, cells := 0, slots := 0, locals := 66 }) s m args below meth c (MQ below (va_Qi post (GB (mw cI cZ o) (dC, dI) gx_cl [(cI, .int), (cZ, .boolean)] A) A) args s 0 0 A) 6 (dC, dI) gx_cl A (mw cI cZ o))) 70 S [v1, v2, v3]) : GV p l e ({ frames := 3, cells := 0, slots := 0, locals := 66 }) s m args below meth c (MQ below (va_Qi post (GB (mw cI cZ o) (dC, dI) gx_cl [(cI, .int), (cZ, .boolean)] A) A) args s 0 0 A) 6 (dC, dI) gx_cl A (mw cI cZ o) S 70 [(0, .ref (o 0)), (1, .int v1), (2, .int v2), (3, .int v3)] [] := by
  refine gx_iload_n C dM_gather_70 2 rfl rfl ?_
  obtain ⟨ht, hf⟩ := hs
  refine gx_if_eq C dM_gather_71 143 rfl (fun hc => ?_) (fun hc => ?_)
  · have hs := ht hc
    refine gx_iconst (v := 0) C dM_gather_143 (by decide) ?_
    refine gx_top (fun y1 ey1 => ?_)
    replace hs := hs y1 ey1
    refine gx_istore_n (L' := [(3, .int y1), (0, .ref (o 0)), (1, .int v1), (2, .int v2)]) C dM_gather_144 rfl (by decide) rfl ?_
    refine gx_iconst (v := 1) C dM_gather_145 (by decide) ?_
    refine gx_top (fun y2 ey2 => ?_)
    replace hs := hs y2 ey2
    refine gx_istore (L' := [(4, .int y2), (3, .int y1), (0, .ref (o 0)), (1, .int v1), (2, .int v2)]) C dM_gather_146 (by decide) rfl ?_
    exact gx_sub [2, 3, 4, 1, 0] rfl hs
  · have hs := hf hc
    refine gx_iconst (v := 0) C dM_gather_74 (by decide) ?_
    refine gx_top (fun y3 ey3 => ?_)
    replace hs := hs y3 ey3
    refine gx_istore_n (L' := [(2, .int y3), (0, .ref (o 0)), (1, .int v1), (3, .int v3)]) C dM_gather_75 rfl (by decide) rfl ?_
    refine gx_iconst (v := 1) C dM_gather_76 (by decide) ?_
    refine gx_top (fun y4 ey4 => ?_)
    replace hs := hs y4 ey4
    refine gx_istore_n (L' := [(3, .int y4), (2, .int y3), (0, .ref (o 0)), (1, .int v1)]) C dM_gather_77 rfl (by decide) rfl ?_
    exact gx_sub [2, 3, 1, 0] rfl hs
set_option maxHeartbeats 4000000 in
set_option maxRecDepth 100000 in
theorem wk_M_gather_78 {l : Launch} {dC : Nat → ClassId} {dI : Nat → Nat → Nat} {cI cZ : ClassId} {o : Nat → Nat}  {p : Program} {e : Env} {s : State} {m : MethodId} {args : Array Value} {below : List Frame} {meth : Method} {c : Code} {A : Nat → Prop} {post : Int32 → GS → Prop} (C : GC p s m args c cM_gather 6 RM wsA (dC, dI) gx_cl [(cI, .int), (cZ, .boolean)] A) (hr : meth.sig.returnType = (some .int)) (hlocks : meth.locks = false) (S : GS) (v1 : Int32) (v2 : Int32) (v3 : Int32) (hs : sp_M_gather post (vh_M_gather o (GV p l e ({ frames := 3, cells := 0, slots := 0, locals := 66 }) s m args below meth c (MQ below (va_Qi post (GB (mw cI cZ o) (dC, dI) gx_cl [(cI, .int), (cZ, .boolean)] A) A) args s 0 0 A) 6 (dC, dI) gx_cl A (mw cI cZ o))) 78 S [v1, v2, v3]) : GV p l e ({ frames := 3, cells := 0, slots := 0, locals := 66 }) s m args below meth c (MQ below (va_Qi post (GB (mw cI cZ o) (dC, dI) gx_cl [(cI, .int), (cZ, .boolean)] A) A) args s 0 0 A) 6 (dC, dI) gx_cl A (mw cI cZ o) S 78 [(0, .ref (o 0)), (1, .int v1), (2, .int v2), (3, .int v3)] [] := by
  refine gx_iload_n C dM_gather_78 3 rfl rfl ?_
  refine gx_aload_n C dM_gather_79 0 rfl rfl ?_
  refine gx_get C mo_this hi_M 2 (by decide) fl_M_51 rfl dM_gather_80 ?_
  obtain ⟨ht, hf⟩ := hs
  refine gx_icmp_gt C dM_gather_83 140 rfl (fun hc => ?_) (fun hc => ?_)
  · have hs := ht hc
    refine gx_goto C dM_gather_140 70 rfl ?_
    exact hs
  · have hs := hf hc
    refine gx_aload_n C dM_gather_86 0 rfl rfl ?_
    refine gx_get C mo_this hi_M 4 (by decide) fl_M_13 rfl dM_gather_87 ?_
    refine gx_iload_n C dM_gather_90 3 rfl rfl ?_
    obtain ⟨hin, hs⟩ := hs
    refine gx_zald C ma_lives hin dM_gather_91 ?_
    obtain ⟨ht, hf⟩ := hs
    refine gx_if_eq C dM_gather_92 116 rfl (fun hc => ?_) (fun hc => ?_)
    · have hs := ht hc
      refine gx_iconst (v := 0) C dM_gather_116 (by decide) ?_
      refine gx_top (fun y1 ey1 => ?_)
      replace hs := hs y1 ey1
      refine gx_istore (L' := [(4, .int y1), (0, .ref (o 0)), (1, .int v1), (2, .int v2), (3, .int v3)]) C dM_gather_117 (by decide) rfl ?_
      refine gx_iload_n C dM_gather_119 3 rfl rfl ?_
      obtain ⟨ht, hf⟩ := hs
      refine gx_if_ne C dM_gather_120 128 rfl (fun hc => ?_) (fun hc => ?_)
      · have hs := ht hc
        refine gx_iconst (v := 1) C dM_gather_128 (by decide) ?_
        refine gx_goto C dM_gather_129 133 rfl ?_
        refine gx_top (fun y2 ey2 => ?_)
        replace hs := hs y2 ey2
        refine gx_istore_n (L' := [(2, .int y2), (4, .int y1), (0, .ref (o 0)), (1, .int v1), (3, .int v3)]) C dM_gather_133 rfl (by decide) rfl ?_
        refine gx_iinc (v0 := 1) (f := fun v => [(3, .int v), (2, .int y2), (4, .int y1), (0, .ref (o 0)), (1, .int v1)]) C dM_gather_134 4 rfl (by decide) (by decide) (fun _ => rfl) (fun y3 ey3 => ?_)
        replace hs := hs y3 ey3
        refine gx_goto C dM_gather_137 78 rfl ?_
        exact gx_sub [3, 4, 1, 0] rfl hs
      · have hs := hf hc
        refine gx_iload C dM_gather_123 0 rfl ?_
        obtain ⟨ht, hf⟩ := hs
        refine gx_if_eq C dM_gather_125 132 rfl (fun hc => ?_) (fun hc => ?_)
        · have hs := ht hc
          refine gx_iconst (v := 0) C dM_gather_132 (by decide) ?_
          refine gx_top (fun y4 ey4 => ?_)
          replace hs := hs y4 ey4
          refine gx_istore_n (L' := [(2, .int y4), (4, .int y1), (0, .ref (o 0)), (1, .int v1), (3, .int v3)]) C dM_gather_133 rfl (by decide) rfl ?_
          refine gx_iinc (v0 := 1) (f := fun v => [(3, .int v), (2, .int y4), (4, .int y1), (0, .ref (o 0)), (1, .int v1)]) C dM_gather_134 4 rfl (by decide) (by decide) (fun _ => rfl) (fun y5 ey5 => ?_)
          replace hs := hs y5 ey5
          refine gx_goto C dM_gather_137 78 rfl ?_
          exact gx_sub [3, 4, 1, 0] rfl hs
        · have hs := hf hc
          refine gx_iconst (v := 1) C dM_gather_128 (by decide) ?_
          refine gx_goto C dM_gather_129 133 rfl ?_
          refine gx_top (fun y6 ey6 => ?_)
          replace hs := hs y6 ey6
          refine gx_istore_n (L' := [(2, .int y6), (4, .int y1), (0, .ref (o 0)), (1, .int v1), (3, .int v3)]) C dM_gather_133 rfl (by decide) rfl ?_
          refine gx_iinc (v0 := 1) (f := fun v => [(3, .int v), (2, .int y6), (4, .int y1), (0, .ref (o 0)), (1, .int v1)]) C dM_gather_134 4 rfl (by decide) (by decide) (fun _ => rfl) (fun y7 ey7 => ?_)
          replace hs := hs y7 ey7
          refine gx_goto C dM_gather_137 78 rfl ?_
          exact gx_sub [3, 4, 1, 0] rfl hs
    · have hs := hf hc
      refine gx_aload_n C dM_gather_95 0 rfl rfl ?_
      refine gx_get C mo_this hi_M 17 (by decide) fl_M_44 rfl dM_gather_96 ?_
      refine gx_iload_n C dM_gather_99 3 rfl rfl ?_
      obtain ⟨hin, hs⟩ := hs
      refine gx_zald C ma_reached hin dM_gather_100 ?_
      obtain ⟨ht, hf⟩ := hs
      refine gx_if_eq C dM_gather_101 116 rfl (fun hc => ?_) (fun hc => ?_)
      · have hs := ht hc
        refine gx_iconst (v := 0) C dM_gather_116 (by decide) ?_
        refine gx_top (fun y8 ey8 => ?_)
        replace hs := hs y8 ey8
        refine gx_istore (L' := [(4, .int y8), (0, .ref (o 0)), (1, .int v1), (2, .int v2), (3, .int v3)]) C dM_gather_117 (by decide) rfl ?_
        refine gx_iload_n C dM_gather_119 3 rfl rfl ?_
        obtain ⟨ht, hf⟩ := hs
        refine gx_if_ne C dM_gather_120 128 rfl (fun hc => ?_) (fun hc => ?_)
        · have hs := ht hc
          refine gx_iconst (v := 1) C dM_gather_128 (by decide) ?_
          refine gx_goto C dM_gather_129 133 rfl ?_
          refine gx_top (fun y9 ey9 => ?_)
          replace hs := hs y9 ey9
          refine gx_istore_n (L' := [(2, .int y9), (4, .int y8), (0, .ref (o 0)), (1, .int v1), (3, .int v3)]) C dM_gather_133 rfl (by decide) rfl ?_
          refine gx_iinc (v0 := 1) (f := fun v => [(3, .int v), (2, .int y9), (4, .int y8), (0, .ref (o 0)), (1, .int v1)]) C dM_gather_134 4 rfl (by decide) (by decide) (fun _ => rfl) (fun y10 ey10 => ?_)
          replace hs := hs y10 ey10
          refine gx_goto C dM_gather_137 78 rfl ?_
          exact gx_sub [3, 4, 1, 0] rfl hs
        · have hs := hf hc
          refine gx_iload C dM_gather_123 0 rfl ?_
          obtain ⟨ht, hf⟩ := hs
          refine gx_if_eq C dM_gather_125 132 rfl (fun hc => ?_) (fun hc => ?_)
          · have hs := ht hc
            refine gx_iconst (v := 0) C dM_gather_132 (by decide) ?_
            refine gx_top (fun y11 ey11 => ?_)
            replace hs := hs y11 ey11
            refine gx_istore_n (L' := [(2, .int y11), (4, .int y8), (0, .ref (o 0)), (1, .int v1), (3, .int v3)]) C dM_gather_133 rfl (by decide) rfl ?_
            refine gx_iinc (v0 := 1) (f := fun v => [(3, .int v), (2, .int y11), (4, .int y8), (0, .ref (o 0)), (1, .int v1)]) C dM_gather_134 4 rfl (by decide) (by decide) (fun _ => rfl) (fun y12 ey12 => ?_)
            replace hs := hs y12 ey12
            refine gx_goto C dM_gather_137 78 rfl ?_
            exact gx_sub [3, 4, 1, 0] rfl hs
          · have hs := hf hc
            refine gx_iconst (v := 1) C dM_gather_128 (by decide) ?_
            refine gx_goto C dM_gather_129 133 rfl ?_
            refine gx_top (fun y13 ey13 => ?_)
            replace hs := hs y13 ey13
            refine gx_istore_n (L' := [(2, .int y13), (4, .int y8), (0, .ref (o 0)), (1, .int v1), (3, .int v3)]) C dM_gather_133 rfl (by decide) rfl ?_
            refine gx_iinc (v0 := 1) (f := fun v => [(3, .int v), (2, .int y13), (4, .int y8), (0, .ref (o 0)), (1, .int v1)]) C dM_gather_134 4 rfl (by decide) (by decide) (fun _ => rfl) (fun y14 ey14 => ?_)
            replace hs := hs y14 ey14
            refine gx_goto C dM_gather_137 78 rfl ?_
            exact gx_sub [3, 4, 1, 0] rfl hs
      · have hs := hf hc
        refine gx_aload_n C dM_gather_104 0 rfl rfl ?_
        refine gx_iload_n C dM_gather_105 3 rfl rfl ?_
        refine gx_calli (As := [.int v3]) (rest := []) C (mt_M_spread l dC dI cI cZ o  _ _ _ hs) (gx_cwV C 1 ln_M_104 im_M_spread se_M_spread in_CountedObjectsModel cd_M_spread rfl rfl (by decide +kernel) ⟨Nat.le_of_ble_eq_true rfl, Nat.le_of_ble_eq_true rfl⟩) mo_this rfl (Nat.le_of_ble_eq_true rfl) dM_gather_106 (fun S1 => mw_ad _ S1) rfl (fun r16 S15 hs => ?_)
        obtain ⟨ht, hf⟩ := hs
        refine gx_if_eq C dM_gather_109 116 rfl (fun hc => ?_) (fun hc => ?_)
        · have hs := ht hc
          refine gx_iconst (v := 0) C dM_gather_116 (by decide) ?_
          refine gx_top (fun y17 ey17 => ?_)
          replace hs := hs y17 ey17
          refine gx_istore (L' := [(4, .int y17), (0, .ref (o 0)), (1, .int v1), (2, .int v2), (3, .int v3)]) C dM_gather_117 (by decide) rfl ?_
          refine gx_iload_n C dM_gather_119 3 rfl rfl ?_
          obtain ⟨ht, hf⟩ := hs
          refine gx_if_ne C dM_gather_120 128 rfl (fun hc => ?_) (fun hc => ?_)
          · have hs := ht hc
            refine gx_iconst (v := 1) C dM_gather_128 (by decide) ?_
            refine gx_goto C dM_gather_129 133 rfl ?_
            refine gx_top (fun y18 ey18 => ?_)
            replace hs := hs y18 ey18
            refine gx_istore_n (L' := [(2, .int y18), (4, .int y17), (0, .ref (o 0)), (1, .int v1), (3, .int v3)]) C dM_gather_133 rfl (by decide) rfl ?_
            refine gx_iinc (v0 := 1) (f := fun v => [(3, .int v), (2, .int y18), (4, .int y17), (0, .ref (o 0)), (1, .int v1)]) C dM_gather_134 4 rfl (by decide) (by decide) (fun _ => rfl) (fun y19 ey19 => ?_)
            replace hs := hs y19 ey19
            refine gx_goto C dM_gather_137 78 rfl ?_
            exact gx_sub [3, 4, 1, 0] rfl hs
          · have hs := hf hc
            refine gx_iload C dM_gather_123 0 rfl ?_
            obtain ⟨ht, hf⟩ := hs
            refine gx_if_eq C dM_gather_125 132 rfl (fun hc => ?_) (fun hc => ?_)
            · have hs := ht hc
              refine gx_iconst (v := 0) C dM_gather_132 (by decide) ?_
              refine gx_top (fun y20 ey20 => ?_)
              replace hs := hs y20 ey20
              refine gx_istore_n (L' := [(2, .int y20), (4, .int y17), (0, .ref (o 0)), (1, .int v1), (3, .int v3)]) C dM_gather_133 rfl (by decide) rfl ?_
              refine gx_iinc (v0 := 1) (f := fun v => [(3, .int v), (2, .int y20), (4, .int y17), (0, .ref (o 0)), (1, .int v1)]) C dM_gather_134 4 rfl (by decide) (by decide) (fun _ => rfl) (fun y21 ey21 => ?_)
              replace hs := hs y21 ey21
              refine gx_goto C dM_gather_137 78 rfl ?_
              exact gx_sub [3, 4, 1, 0] rfl hs
            · have hs := hf hc
              refine gx_iconst (v := 1) C dM_gather_128 (by decide) ?_
              refine gx_goto C dM_gather_129 133 rfl ?_
              refine gx_top (fun y22 ey22 => ?_)
              replace hs := hs y22 ey22
              refine gx_istore_n (L' := [(2, .int y22), (4, .int y17), (0, .ref (o 0)), (1, .int v1), (3, .int v3)]) C dM_gather_133 rfl (by decide) rfl ?_
              refine gx_iinc (v0 := 1) (f := fun v => [(3, .int v), (2, .int y22), (4, .int y17), (0, .ref (o 0)), (1, .int v1)]) C dM_gather_134 4 rfl (by decide) (by decide) (fun _ => rfl) (fun y23 ey23 => ?_)
              replace hs := hs y23 ey23
              refine gx_goto C dM_gather_137 78 rfl ?_
              exact gx_sub [3, 4, 1, 0] rfl hs
        · have hs := hf hc
          refine gx_iconst (v := 1) C dM_gather_112 (by decide) ?_
          refine gx_goto C dM_gather_113 117 rfl ?_
          refine gx_top (fun y24 ey24 => ?_)
          replace hs := hs y24 ey24
          refine gx_istore (L' := [(4, .int y24), (0, .ref (o 0)), (1, .int v1), (2, .int v2), (3, .int v3)]) C dM_gather_117 (by decide) rfl ?_
          refine gx_iload_n C dM_gather_119 3 rfl rfl ?_
          obtain ⟨ht, hf⟩ := hs
          refine gx_if_ne C dM_gather_120 128 rfl (fun hc => ?_) (fun hc => ?_)
          · have hs := ht hc
            refine gx_iconst (v := 1) C dM_gather_128 (by decide) ?_
            refine gx_goto C dM_gather_129 133 rfl ?_
            refine gx_top (fun y25 ey25 => ?_)
            replace hs := hs y25 ey25
            refine gx_istore_n (L' := [(2, .int y25), (4, .int y24), (0, .ref (o 0)), (1, .int v1), (3, .int v3)]) C dM_gather_133 rfl (by decide) rfl ?_
            refine gx_iinc (v0 := 1) (f := fun v => [(3, .int v), (2, .int y25), (4, .int y24), (0, .ref (o 0)), (1, .int v1)]) C dM_gather_134 4 rfl (by decide) (by decide) (fun _ => rfl) (fun y26 ey26 => ?_)
            replace hs := hs y26 ey26
            refine gx_goto C dM_gather_137 78 rfl ?_
            exact gx_sub [3, 4, 1, 0] rfl hs
          · have hs := hf hc
            refine gx_iload C dM_gather_123 0 rfl ?_
            obtain ⟨ht, hf⟩ := hs
            refine gx_if_eq C dM_gather_125 132 rfl (fun hc => ?_) (fun hc => ?_)
            · have hs := ht hc
              refine gx_iconst (v := 0) C dM_gather_132 (by decide) ?_
              refine gx_top (fun y27 ey27 => ?_)
              replace hs := hs y27 ey27
              refine gx_istore_n (L' := [(2, .int y27), (4, .int y24), (0, .ref (o 0)), (1, .int v1), (3, .int v3)]) C dM_gather_133 rfl (by decide) rfl ?_
              refine gx_iinc (v0 := 1) (f := fun v => [(3, .int v), (2, .int y27), (4, .int y24), (0, .ref (o 0)), (1, .int v1)]) C dM_gather_134 4 rfl (by decide) (by decide) (fun _ => rfl) (fun y28 ey28 => ?_)
              replace hs := hs y28 ey28
              refine gx_goto C dM_gather_137 78 rfl ?_
              exact gx_sub [3, 4, 1, 0] rfl hs
            · have hs := hf hc
              refine gx_iconst (v := 1) C dM_gather_128 (by decide) ?_
              refine gx_goto C dM_gather_129 133 rfl ?_
              refine gx_top (fun y29 ey29 => ?_)
              replace hs := hs y29 ey29
              refine gx_istore_n (L' := [(2, .int y29), (4, .int y24), (0, .ref (o 0)), (1, .int v1), (3, .int v3)]) C dM_gather_133 rfl (by decide) rfl ?_
              refine gx_iinc (v0 := 1) (f := fun v => [(3, .int v), (2, .int y29), (4, .int y24), (0, .ref (o 0)), (1, .int v1)]) C dM_gather_134 4 rfl (by decide) (by decide) (fun _ => rfl) (fun y30 ey30 => ?_)
              replace hs := hs y30 ey30
              refine gx_goto C dM_gather_137 78 rfl ?_
              exact gx_sub [3, 4, 1, 0] rfl hs
set_option maxHeartbeats 4000000 in
set_option maxRecDepth 100000 in
theorem wk_M_gather_148 {l : Launch} {dC : Nat → ClassId} {dI : Nat → Nat → Nat} {cI cZ : ClassId} {o : Nat → Nat}  {p : Program} {e : Env} {s : State} {m : MethodId} {args : Array Value} {below : List Frame} {meth : Method} {c : Code} {A : Nat → Prop} {post : Int32 → GS → Prop} (C : GC p s m args c cM_gather 6 RM wsA (dC, dI) gx_cl [(cI, .int), (cZ, .boolean)] A) (hr : meth.sig.returnType = (some .int)) (hlocks : meth.locks = false) (S : GS) (v1 : Int32) (v2 : Int32) (v3 : Int32) (v4 : Int32) (hs : sp_M_gather post (vh_M_gather o (GV p l e ({ frames := 3, cells := 0, slots := 0, locals := 66 }) s m args below meth c (MQ below (va_Qi post (GB (mw cI cZ o) (dC, dI) gx_cl [(cI, .int), (cZ, .boolean)] A) A) args s 0 0 A) 6 (dC, dI) gx_cl A (mw cI cZ o))) 148 S [v1, v2, v3, v4]) : GV p l e ({ frames := 3, cells := 0, slots := 0, locals := 66 }) s m args below meth c (MQ below (va_Qi post (GB (mw cI cZ o) (dC, dI) gx_cl [(cI, .int), (cZ, .boolean)] A) A) args s 0 0 A) 6 (dC, dI) gx_cl A (mw cI cZ o) S 148 [(0, .ref (o 0)), (1, .int v1), (2, .int v2), (3, .int v3), (4, .int v4)] [] := by
  refine gx_iload C dM_gather_148 4 rfl ?_
  refine gx_aload_n C dM_gather_150 0 rfl rfl ?_
  refine gx_get C mo_this hi_M 2 (by decide) fl_M_51 rfl dM_gather_151 ?_
  obtain ⟨ht, hf⟩ := hs
  refine gx_icmp_gt C dM_gather_154 200 rfl (fun hc => ?_) (fun hc => ?_)
  · have hs := ht hc
    refine gx_iconst (v := 0) C dM_gather_200 (by decide) ?_
    refine gx_top (fun y1 ey1 => ?_)
    replace hs := hs y1 ey1
    refine gx_istore (L' := [(4, .int y1), (0, .ref (o 0)), (1, .int v1), (2, .int v2), (3, .int v3)]) C dM_gather_201 (by decide) rfl ?_
    exact gx_sub [1, 2, 3, 4, 0] rfl hs
  · have hs := hf hc
    refine gx_aload_n C dM_gather_157 0 rfl rfl ?_
    refine gx_get C mo_this hi_M 7 (by decide) fl_M_23 rfl dM_gather_158 ?_
    refine gx_iload C dM_gather_161 4 rfl ?_
    refine gx_iconst (v := 0) C dM_gather_163 (by decide) ?_
    obtain ⟨hin, hs⟩ := hs
    refine gx_iast C ma_counts hin dM_gather_164 (fun S2 eS2 => ?_)
    replace hs := hs S2 eS2
    refine gx_aload_n C dM_gather_165 0 rfl rfl ?_
    refine gx_get C mo_this hi_M 4 (by decide) fl_M_13 rfl dM_gather_166 ?_
    refine gx_iload C dM_gather_169 4 rfl ?_
    obtain ⟨hin, hs⟩ := hs
    refine gx_zald C ma_lives hin dM_gather_171 ?_
    obtain ⟨ht, hf⟩ := hs
    refine gx_if_eq C dM_gather_172 194 rfl (fun hc => ?_) (fun hc => ?_)
    · have hs := ht hc
      refine gx_iinc (v0 := 1) (f := fun v => [(4, .int v), (0, .ref (o 0)), (1, .int v1), (2, .int v2), (3, .int v3)]) C dM_gather_194 4 rfl (by decide) (by decide) (fun _ => rfl) (fun y3 ey3 => ?_)
      replace hs := hs y3 ey3
      refine gx_goto C dM_gather_197 148 rfl ?_
      exact gx_sub [1, 2, 3, 4, 0] rfl hs
    · have hs := hf hc
      refine gx_aload_n C dM_gather_175 0 rfl rfl ?_
      refine gx_get C mo_this hi_M 17 (by decide) fl_M_44 rfl dM_gather_176 ?_
      refine gx_iload C dM_gather_179 4 rfl ?_
      obtain ⟨hin, hs⟩ := hs
      refine gx_zald C ma_reached hin dM_gather_181 ?_
      obtain ⟨ht, hf⟩ := hs
      refine gx_if_ne C dM_gather_182 194 rfl (fun hc => ?_) (fun hc => ?_)
      · have hs := ht hc
        refine gx_iinc (v0 := 1) (f := fun v => [(4, .int v), (0, .ref (o 0)), (1, .int v1), (2, .int v2), (3, .int v3)]) C dM_gather_194 4 rfl (by decide) (by decide) (fun _ => rfl) (fun y4 ey4 => ?_)
        replace hs := hs y4 ey4
        refine gx_goto C dM_gather_197 148 rfl ?_
        exact gx_sub [1, 2, 3, 4, 0] rfl hs
      · have hs := hf hc
        refine gx_aload_n C dM_gather_185 0 rfl rfl ?_
        refine gx_iload C dM_gather_186 4 rfl ?_
        refine gx_callv (As := [.int v4]) (rest := []) C (mt_M_takeAway l dC dI cI cZ o  _ _ _ hs) (gx_cwV C 1 ln_M_92 im_M_takeAway se_M_takeAway in_CountedObjectsModel cd_M_takeAway rfl rfl (by decide +kernel) ⟨Nat.le_of_ble_eq_true rfl, Nat.le_of_ble_eq_true rfl⟩) mo_this rfl (Nat.le_of_ble_eq_true rfl) dM_gather_188 (fun S1 => mw_ad _ S1) rfl (fun S5 hs => ?_)
        refine gx_iinc (v0 := 1) (f := fun v => [(3, .int v), (0, .ref (o 0)), (1, .int v1), (2, .int v2), (4, .int v4)]) C dM_gather_191 3 rfl (by decide) (by decide) (fun _ => rfl) (fun y7 ey7 => ?_)
        replace hs := hs y7 ey7
        refine gx_iinc (v0 := 1) (f := fun v => [(4, .int v), (3, .int y7), (0, .ref (o 0)), (1, .int v1), (2, .int v2)]) C dM_gather_194 4 rfl (by decide) (by decide) (fun _ => rfl) (fun y8 ey8 => ?_)
        replace hs := hs y8 ey8
        refine gx_goto C dM_gather_197 148 rfl ?_
        exact gx_sub [2, 3, 4, 1, 0] rfl hs
set_option maxHeartbeats 4000000 in
set_option maxRecDepth 100000 in
theorem wk_M_gather_203 {l : Launch} {dC : Nat → ClassId} {dI : Nat → Nat → Nat} {cI cZ : ClassId} {o : Nat → Nat}  {p : Program} {e : Env} {s : State} {m : MethodId} {args : Array Value} {below : List Frame} {meth : Method} {c : Code} {A : Nat → Prop} {post : Int32 → GS → Prop} (C : GC p s m args c cM_gather 6 RM wsA (dC, dI) gx_cl [(cI, .int), (cZ, .boolean)] A) (hr : meth.sig.returnType = (some .int)) (hlocks : meth.locks = false) (S : GS) (v1 : Int32) (v2 : Int32) (v3 : Int32) (v4 : Int32) (hs : sp_M_gather post (vh_M_gather o (GV p l e ({ frames := 3, cells := 0, slots := 0, locals := 66 }) s m args below meth c (MQ below (va_Qi post (GB (mw cI cZ o) (dC, dI) gx_cl [(cI, .int), (cZ, .boolean)] A) A) args s 0 0 A) 6 (dC, dI) gx_cl A (mw cI cZ o))) 203 S [v1, v2, v3, v4]) : GV p l e ({ frames := 3, cells := 0, slots := 0, locals := 66 }) s m args below meth c (MQ below (va_Qi post (GB (mw cI cZ o) (dC, dI) gx_cl [(cI, .int), (cZ, .boolean)] A) A) args s 0 0 A) 6 (dC, dI) gx_cl A (mw cI cZ o) S 203 [(0, .ref (o 0)), (1, .int v1), (2, .int v2), (3, .int v3), (4, .int v4)] [] := by
  refine gx_iload C dM_gather_203 4 rfl ?_
  refine gx_bipush (v := 8) C dM_gather_205 (by decide) ?_
  obtain ⟨ht, hf⟩ := hs
  refine gx_icmp_ge C dM_gather_207 227 rfl (fun hc => ?_) (fun hc => ?_)
  · have hs := ht hc
    refine gx_iconst (v := 1) C dM_gather_227 (by decide) ?_
    refine gx_top (fun y1 ey1 => ?_)
    replace hs := hs y1 ey1
    refine gx_istore (L' := [(4, .int y1), (0, .ref (o 0)), (1, .int v1), (2, .int v2), (3, .int v3)]) C dM_gather_228 (by decide) rfl ?_
    exact gx_sub [1, 2, 3, 4, 0] rfl hs
  · have hs := hf hc
    refine gx_aload_n C dM_gather_210 0 rfl rfl ?_
    refine gx_aload_n C dM_gather_211 0 rfl rfl ?_
    refine gx_get C mo_this hi_M 3 (by decide) fl_M_7 rfl dM_gather_212 ?_
    refine gx_iload C dM_gather_215 4 rfl ?_
    obtain ⟨hin, hs⟩ := hs
    refine gx_iald C ma_registers hin dM_gather_217 ?_
    refine gx_callv (As := [.int (S 0 (v4).toNatClampNeg)]) (rest := []) C (mt_M_comes l dC dI cI cZ o  _ _ _ hs) (gx_cwV C 1 ln_M_95 im_M_comes se_M_comes in_CountedObjectsModel cd_M_comes rfl rfl (by decide +kernel) ⟨Nat.le_of_ble_eq_true rfl, Nat.le_of_ble_eq_true rfl⟩) mo_this rfl (Nat.le_of_ble_eq_true rfl) dM_gather_218 (fun S1 => mw_ad _ S1) rfl (fun S2 hs => ?_)
    refine gx_iinc (v0 := 1) (f := fun v => [(4, .int v), (0, .ref (o 0)), (1, .int v1), (2, .int v2), (3, .int v3)]) C dM_gather_221 4 rfl (by decide) (by decide) (fun _ => rfl) (fun y4 ey4 => ?_)
    replace hs := hs y4 ey4
    refine gx_goto C dM_gather_224 203 rfl ?_
    exact gx_sub [1, 2, 3, 4, 0] rfl hs
set_option maxHeartbeats 4000000 in
set_option maxRecDepth 100000 in
theorem wk_M_gather_230 {l : Launch} {dC : Nat → ClassId} {dI : Nat → Nat → Nat} {cI cZ : ClassId} {o : Nat → Nat}  {p : Program} {e : Env} {s : State} {m : MethodId} {args : Array Value} {below : List Frame} {meth : Method} {c : Code} {A : Nat → Prop} {post : Int32 → GS → Prop} (C : GC p s m args c cM_gather 6 RM wsA (dC, dI) gx_cl [(cI, .int), (cZ, .boolean)] A) (hr : meth.sig.returnType = (some .int)) (hlocks : meth.locks = false) (S : GS) (v1 : Int32) (v2 : Int32) (v3 : Int32) (v4 : Int32) (hs : sp_M_gather post (vh_M_gather o (GV p l e ({ frames := 3, cells := 0, slots := 0, locals := 66 }) s m args below meth c (MQ below (va_Qi post (GB (mw cI cZ o) (dC, dI) gx_cl [(cI, .int), (cZ, .boolean)] A) A) args s 0 0 A) 6 (dC, dI) gx_cl A (mw cI cZ o))) 230 S [v1, v2, v3, v4]) : GV p l e ({ frames := 3, cells := 0, slots := 0, locals := 66 }) s m args below meth c (MQ below (va_Qi post (GB (mw cI cZ o) (dC, dI) gx_cl [(cI, .int), (cZ, .boolean)] A) A) args s 0 0 A) 6 (dC, dI) gx_cl A (mw cI cZ o) S 230 [(0, .ref (o 0)), (1, .int v1), (2, .int v2), (3, .int v3), (4, .int v4)] [] := by
  refine gx_iload C dM_gather_230 4 rfl ?_
  refine gx_aload_n C dM_gather_232 0 rfl rfl ?_
  refine gx_get C mo_this hi_M 2 (by decide) fl_M_51 rfl dM_gather_233 ?_
  obtain ⟨ht, hf⟩ := hs
  refine gx_icmp_gt C dM_gather_236 297 rfl (fun hc => ?_) (fun hc => ?_)
  · have hs := ht hc
    refine gx_iload_n C dM_gather_297 3 rfl rfl ?_
    exact gx_iret C hr hlocks dM_gather_298 hs
  · have hs := hf hc
    refine gx_iconst (v := 0) C dM_gather_239 (by decide) ?_
    refine gx_top (fun y1 ey1 => ?_)
    replace hs := hs y1 ey1
    refine gx_istore (L' := [(5, .int y1), (0, .ref (o 0)), (1, .int v1), (2, .int v2), (3, .int v3), (4, .int v4)]) C dM_gather_240 (by decide) rfl ?_
    exact gx_sub [1, 2, 3, 4, 5, 0] rfl hs
set_option maxHeartbeats 4000000 in
set_option maxRecDepth 100000 in
theorem wk_M_gather_242 {l : Launch} {dC : Nat → ClassId} {dI : Nat → Nat → Nat} {cI cZ : ClassId} {o : Nat → Nat}  {p : Program} {e : Env} {s : State} {m : MethodId} {args : Array Value} {below : List Frame} {meth : Method} {c : Code} {A : Nat → Prop} {post : Int32 → GS → Prop} (C : GC p s m args c cM_gather 6 RM wsA (dC, dI) gx_cl [(cI, .int), (cZ, .boolean)] A) (hr : meth.sig.returnType = (some .int)) (hlocks : meth.locks = false) (S : GS) (v1 : Int32) (v2 : Int32) (v3 : Int32) (v4 : Int32) (v5 : Int32) (hs : sp_M_gather post (vh_M_gather o (GV p l e ({ frames := 3, cells := 0, slots := 0, locals := 66 }) s m args below meth c (MQ below (va_Qi post (GB (mw cI cZ o) (dC, dI) gx_cl [(cI, .int), (cZ, .boolean)] A) A) args s 0 0 A) 6 (dC, dI) gx_cl A (mw cI cZ o))) 242 S [v1, v2, v3, v4, v5]) : GV p l e ({ frames := 3, cells := 0, slots := 0, locals := 66 }) s m args below meth c (MQ below (va_Qi post (GB (mw cI cZ o) (dC, dI) gx_cl [(cI, .int), (cZ, .boolean)] A) A) args s 0 0 A) 6 (dC, dI) gx_cl A (mw cI cZ o) S 242 [(0, .ref (o 0)), (1, .int v1), (2, .int v2), (3, .int v3), (4, .int v4), (5, .int v5)] [] := by
  refine gx_aload_n C dM_gather_242 0 rfl rfl ?_
  refine gx_get C mo_this hi_M 4 (by decide) fl_M_13 rfl dM_gather_243 ?_
  refine gx_iload C dM_gather_246 4 rfl ?_
  obtain ⟨hin, hs⟩ := hs
  refine gx_zald C ma_lives hin dM_gather_248 ?_
  obtain ⟨ht, hf⟩ := hs
  refine gx_if_eq C dM_gather_249 291 rfl (fun hc => ?_) (fun hc => ?_)
  · have hs := ht hc
    refine gx_iinc (v0 := 1) (f := fun v => [(4, .int v), (0, .ref (o 0)), (1, .int v1), (2, .int v2), (3, .int v3), (5, .int v5)]) C dM_gather_291 4 rfl (by decide) (by decide) (fun _ => rfl) (fun y1 ey1 => ?_)
    replace hs := hs y1 ey1
    refine gx_goto C dM_gather_294 230 rfl ?_
    exact gx_sub [1, 2, 3, 4, 0] rfl hs
  · have hs := hf hc
    refine gx_iload C dM_gather_252 5 rfl ?_
    refine gx_aload_n C dM_gather_254 0 rfl rfl ?_
    refine gx_get C mo_this hi_M 6 (by decide) fl_M_20 rfl dM_gather_255 ?_
    refine gx_iload C dM_gather_258 4 rfl ?_
    obtain ⟨hin, hs⟩ := hs
    refine gx_iald C ma_sizes hin dM_gather_260 ?_
    obtain ⟨ht, hf⟩ := hs
    refine gx_icmp_gt C dM_gather_261 291 rfl (fun hc => ?_) (fun hc => ?_)
    · have hs := ht hc
      refine gx_iinc (v0 := 1) (f := fun v => [(4, .int v), (0, .ref (o 0)), (1, .int v1), (2, .int v2), (3, .int v3), (5, .int v5)]) C dM_gather_291 4 rfl (by decide) (by decide) (fun _ => rfl) (fun y2 ey2 => ?_)
      replace hs := hs y2 ey2
      refine gx_goto C dM_gather_294 230 rfl ?_
      exact gx_sub [1, 2, 3, 4, 0] rfl hs
    · have hs := hf hc
      refine gx_aload_n C dM_gather_264 0 rfl rfl ?_
      refine gx_aload_n C dM_gather_265 0 rfl rfl ?_
      refine gx_get C mo_this hi_M 8 (by decide) fl_M_26 rfl dM_gather_266 ?_
      refine gx_aload_n C dM_gather_269 0 rfl rfl ?_
      refine gx_get C mo_this hi_M 5 (by decide) fl_M_17 rfl dM_gather_270 ?_
      refine gx_iload C dM_gather_273 4 rfl ?_
      obtain ⟨hin, hs⟩ := hs
      refine gx_iald C ma_addresses hin dM_gather_275 ?_
      refine gx_iconst (v := 1) C dM_gather_276 (by decide) ?_
      refine gx_iadd C dM_gather_277 ?_
      refine gx_iload C dM_gather_278 5 rfl ?_
      refine gx_iadd C dM_gather_280 ?_
      obtain ⟨hin, hs⟩ := hs
      refine gx_iald C ma_word hin dM_gather_281 ?_
      refine gx_callv (As := [.int (S 5 (((S 2 (v4).toNatClampNeg) + 1) + v5).toNatClampNeg)]) (rest := []) C (mt_M_comes l dC dI cI cZ o  _ _ _ hs) (gx_cwV C 1 ln_M_95 im_M_comes se_M_comes in_CountedObjectsModel cd_M_comes rfl rfl (by decide +kernel) ⟨Nat.le_of_ble_eq_true rfl, Nat.le_of_ble_eq_true rfl⟩) mo_this rfl (Nat.le_of_ble_eq_true rfl) dM_gather_282 (fun S1 => mw_ad _ S1) rfl (fun S3 hs => ?_)
      refine gx_iinc (v0 := 1) (f := fun v => [(5, .int v), (0, .ref (o 0)), (1, .int v1), (2, .int v2), (3, .int v3), (4, .int v4)]) C dM_gather_285 5 rfl (by decide) (by decide) (fun _ => rfl) (fun y5 ey5 => ?_)
      replace hs := hs y5 ey5
      refine gx_goto C dM_gather_288 242 rfl ?_
      exact gx_sub [1, 2, 3, 4, 5, 0] rfl hs
set_option maxHeartbeats 4000000 in
set_option maxRecDepth 100000 in
theorem mt_M_gather (l : Launch) (dC : Nat → ClassId) (dI : Nat → Nat → Nat) (cI cZ : ClassId) (o : Nat → Nat) (v1 : Int32) (S : GS) (post : Int32 → GS → Prop) (h : wp_M_gather [v1] S post) : MetI l yM_gather (Cond.code yM_gather cM_gather 6 (some .int) :: wsA) ({ frames := 3, cells := 0, slots := 0, locals := 66 }) (dC, dI) gx_cl [(cI, .int), (cZ, .boolean)] (mw cI cZ o) [.ref (o 0), .int v1] S post := by
  refine gx_metI (by decide) wsA_good (Nat.le_of_ble_eq_true rfl) ?_
  intro p e s m args below meth c A C hr hlocks
  refine h (vh_M_gather o (GV p l e ({ frames := 3, cells := 0, slots := 0, locals := 66 }) s m args below meth c (MQ below (va_Qi post (GB (mw cI cZ o) (dC, dI) gx_cl [(cI, .int), (cZ, .boolean)] A) A) args s 0 0 A) 6 (dC, dI) gx_cl A (mw cI cZ o))) (fun h S xs hs => ?_)
  unfold sp_M_gather at hs
  split at hs
  · exact wk_M_gather_0 C hr hlocks _ _ hs
  · exact wk_M_gather_2 C hr hlocks _ _ _ hs
  · exact wk_M_gather_31 C hr hlocks _ _ _ _ hs
  · exact wk_M_gather_70 C hr hlocks _ _ _ _ hs
  · exact wk_M_gather_78 C hr hlocks _ _ _ _ hs
  · exact wk_M_gather_148 C hr hlocks _ _ _ _ _ hs
  · exact wk_M_gather_203 C hr hlocks _ _ _ _ _ hs
  · exact wk_M_gather_230 C hr hlocks _ _ _ _ _ hs
  · exact wk_M_gather_242 C hr hlocks _ _ _ _ _ _ hs
  · exact hs.elim
/-- CountedObjectsModel.freeEntry()I: a step from head to head -/
def sp_M_freeEntry (post : Int32 → GS → Prop) (V : Nat → GS → List Int32 → Prop) (h : Nat) (S : GS) (xs : List Int32) : Prop := match h, xs with
  | 0, [] => ∀ y1 : Int32, y1 = 1 → V 2 S [y1]
  | 2, [v1] => (((S 100 2) < v1 → post 0 S) ∧ (¬ (S 100 2) < v1 → (vp_in v1 41 ∧ ((¬ (S 1 (v1).toNatClampNeg) = 0 → (∀ y1 : Int32, y1 = v1 + 1 → V 2 S [y1])) ∧ ((S 1 (v1).toNatClampNeg) = 0 → post v1 S)))))
  | _, _ => False
def wp_M_freeEntry (xs : List Int32) (S : GS) (post : Int32 → GS → Prop) : Prop := ∀ V : Nat → GS → List Int32 → Prop, (∀ h S xs, sp_M_freeEntry post V h S xs → V h S xs) → V 0 S xs
def vh_M_freeEntry (o : Nat → Nat) (G : GS → Nat → List (Nat × Value) → List Value → Prop) (h : Nat) (S : GS) (xs : List Int32) : Prop := match h, xs with
  | 0, [] => G S 0 [(0, .ref (o 0))] []
  | 2, [v1] => G S 2 [(0, .ref (o 0)), (1, .int v1)] []
  | _, _ => True
set_option maxHeartbeats 4000000 in
set_option maxRecDepth 100000 in
theorem wk_M_freeEntry_0 {l : Launch} {dC : Nat → ClassId} {dI : Nat → Nat → Nat} {cI cZ : ClassId} {o : Nat → Nat}  {p : Program} {e : Env} {s : State} {m : MethodId} {args : Array Value} {below : List Frame} {meth : Method} {c : Code} {A : Nat → Prop} {post : Int32 → GS → Prop} (C : GC p s m args c cM_freeEntry 2 RM wsA (dC, dI) gx_cl [(cI, .int), (cZ, .boolean)] A) (hr : meth.sig.returnType = (some .int)) (hlocks : meth.locks = false) (S : GS) (hs : sp_M_freeEntry post (vh_M_freeEntry o (GV p l e ({ frames := 0, cells := 0, slots := 0, locals := 0 }) s m args below meth c (MQ below (va_Qi post (GB (mw cI cZ o) (dC, dI) gx_cl [(cI, .int), (cZ, .boolean)] A) A) args s 0 0 A) 2 (dC, dI) gx_cl A (mw cI cZ o))) 0 S []) : GV p l e ({ frames := 0, cells := 0, slots := 0, locals := 0 }) s m args below meth c (MQ below (va_Qi post (GB (mw cI cZ o) (dC, dI) gx_cl [(cI, .int), (cZ, .boolean)] A) A) args s 0 0 A) 2 (dC, dI) gx_cl A (mw cI cZ o) S 0 [(0, .ref (o 0))] [] := by
  refine gx_iconst (v := 1) C dM_freeEntry_0 (by decide) ?_
  refine gx_top (fun y1 ey1 => ?_)
  replace hs := hs y1 ey1
  refine gx_istore_n (L' := [(1, .int y1), (0, .ref (o 0))]) C dM_freeEntry_1 rfl (by decide) rfl ?_
  exact gx_sub [1, 0] rfl hs
set_option maxHeartbeats 4000000 in
set_option maxRecDepth 100000 in
theorem wk_M_freeEntry_2 {l : Launch} {dC : Nat → ClassId} {dI : Nat → Nat → Nat} {cI cZ : ClassId} {o : Nat → Nat}  {p : Program} {e : Env} {s : State} {m : MethodId} {args : Array Value} {below : List Frame} {meth : Method} {c : Code} {A : Nat → Prop} {post : Int32 → GS → Prop} (C : GC p s m args c cM_freeEntry 2 RM wsA (dC, dI) gx_cl [(cI, .int), (cZ, .boolean)] A) (hr : meth.sig.returnType = (some .int)) (hlocks : meth.locks = false) (S : GS) (v1 : Int32) (hs : sp_M_freeEntry post (vh_M_freeEntry o (GV p l e ({ frames := 0, cells := 0, slots := 0, locals := 0 }) s m args below meth c (MQ below (va_Qi post (GB (mw cI cZ o) (dC, dI) gx_cl [(cI, .int), (cZ, .boolean)] A) A) args s 0 0 A) 2 (dC, dI) gx_cl A (mw cI cZ o))) 2 S [v1]) : GV p l e ({ frames := 0, cells := 0, slots := 0, locals := 0 }) s m args below meth c (MQ below (va_Qi post (GB (mw cI cZ o) (dC, dI) gx_cl [(cI, .int), (cZ, .boolean)] A) A) args s 0 0 A) 2 (dC, dI) gx_cl A (mw cI cZ o) S 2 [(0, .ref (o 0)), (1, .int v1)] [] := by
  refine gx_iload_n C dM_freeEntry_2 1 rfl rfl ?_
  refine gx_aload_n C dM_freeEntry_3 0 rfl rfl ?_
  refine gx_get C mo_this hi_M 2 (by decide) fl_M_51 rfl dM_freeEntry_4 ?_
  obtain ⟨ht, hf⟩ := hs
  refine gx_icmp_gt C dM_freeEntry_7 27 rfl (fun hc => ?_) (fun hc => ?_)
  · have hs := ht hc
    refine gx_iconst (v := 0) C dM_freeEntry_27 (by decide) ?_
    exact gx_iret C hr hlocks dM_freeEntry_28 hs
  · have hs := hf hc
    refine gx_aload_n C dM_freeEntry_10 0 rfl rfl ?_
    refine gx_get C mo_this hi_M 4 (by decide) fl_M_13 rfl dM_freeEntry_11 ?_
    refine gx_iload_n C dM_freeEntry_14 1 rfl rfl ?_
    obtain ⟨hin, hs⟩ := hs
    refine gx_zald C ma_lives hin dM_freeEntry_15 ?_
    obtain ⟨ht, hf⟩ := hs
    refine gx_if_ne C dM_freeEntry_16 21 rfl (fun hc => ?_) (fun hc => ?_)
    · have hs := ht hc
      refine gx_iinc (v0 := 1) (f := fun v => [(1, .int v), (0, .ref (o 0))]) C dM_freeEntry_21 1 rfl (by decide) (by decide) (fun _ => rfl) (fun y1 ey1 => ?_)
      replace hs := hs y1 ey1
      refine gx_goto C dM_freeEntry_24 2 rfl ?_
      exact gx_sub [1, 0] rfl hs
    · have hs := hf hc
      refine gx_iload_n C dM_freeEntry_19 1 rfl rfl ?_
      exact gx_iret C hr hlocks dM_freeEntry_20 hs
set_option maxHeartbeats 4000000 in
set_option maxRecDepth 100000 in
theorem mt_M_freeEntry (l : Launch) (dC : Nat → ClassId) (dI : Nat → Nat → Nat) (cI cZ : ClassId) (o : Nat → Nat) (S : GS) (post : Int32 → GS → Prop) (h : wp_M_freeEntry [] S post) : MetI l yM_freeEntry (Cond.code yM_freeEntry cM_freeEntry 2 (some .int) :: wsA) ({ frames := 0, cells := 0, slots := 0, locals := 0 }) (dC, dI) gx_cl [(cI, .int), (cZ, .boolean)] (mw cI cZ o) [.ref (o 0)] S post := by
  refine gx_metI (by decide) wsA_good (Nat.le_of_ble_eq_true rfl) ?_
  intro p e s m args below meth c A C hr hlocks
  refine h (vh_M_freeEntry o (GV p l e ({ frames := 0, cells := 0, slots := 0, locals := 0 }) s m args below meth c (MQ below (va_Qi post (GB (mw cI cZ o) (dC, dI) gx_cl [(cI, .int), (cZ, .boolean)] A) A) args s 0 0 A) 2 (dC, dI) gx_cl A (mw cI cZ o))) (fun h S xs hs => ?_)
  unfold sp_M_freeEntry at hs
  split at hs
  · exact wk_M_freeEntry_0 C hr hlocks _ hs
  · exact wk_M_freeEntry_2 C hr hlocks _ _ hs
  · exact hs.elim
/-- CountedObjectsModel.instantiate(III)I: a step from head to head -/
def sp_M_instantiate (post : Int32 → GS → Prop) (V : Nat → GS → List Int32 → Prop) (h : Nat) (S : GS) (xs : List Int32) : Prop := match h, xs with
  | 0, [v1, v2, v3] => wp_M_isRegister  [v1] S (fun r2 S1 => ((¬ r2 = 0 → wp_M_isValue  [v2] S1 (fun r4 S3 => ((r4 = 0 → (∀ S5 : GS, S5 = gx_set 100 0 2 S3 → (((S5 100 0) = 0 → V 47 S5 [v1, v2, v3]) ∧ (¬ (S5 100 0) = 0 → post 0 S5)))) ∧ (¬ r4 = 0 → ((v3 < 0 → (∀ S6 : GS, S6 = gx_set 100 0 2 S3 → (((S6 100 0) = 0 → V 47 S6 [v1, v2, v3]) ∧ (¬ (S6 100 0) = 0 → post 0 S6)))) ∧ (¬ v3 < 0 → ((v3 ≤ 20 → (∀ S7 : GS, S7 = gx_set 100 0 0 S3 → (((S7 100 0) = 0 → V 47 S7 [v1, v2, v3]) ∧ (¬ (S7 100 0) = 0 → post 0 S7)))) ∧ (¬ v3 ≤ 20 → (∀ S8 : GS, S8 = gx_set 100 0 2 S3 → (((S8 100 0) = 0 → V 47 S8 [v1, v2, v3]) ∧ (¬ (S8 100 0) = 0 → post 0 S8))))))))))) ∧ (r2 = 0 → (∀ S9 : GS, S9 = gx_set 100 0 1 S1 → (((S9 100 0) = 0 → V 47 S9 [v1, v2, v3]) ∧ (¬ (S9 100 0) = 0 → post 0 S9))))))
  | 47, [v1, v2, v3] => wp_M_freeEntry  [] S (fun r2 S1 => ((¬ r2 = 0 → ∀ y3 : Int32, y3 = 0 → ((y3 = 0 → V 73 S1 [v1, v2, v3, y3]) ∧ (¬ y3 = 0 → wp_M_gather  [v2] S1 (fun r5 S4 => V 73 S4 [v1, v2, v3, y3])))) ∧ (r2 = 0 → ∀ y6 : Int32, y6 = 1 → ((y6 = 0 → V 73 S1 [v1, v2, v3, y6]) ∧ (¬ y6 = 0 → wp_M_gather  [v2] S1 (fun r8 S7 => V 73 S7 [v1, v2, v3, y6]))))))
  | 73, [v1, v2, v3, v4] => wp_M_freeEntry  [] S (fun r2 S1 => ((¬ r2 = 0 → wp_M_place  [v3 + 2] S1 (fun r4 S3 => ((0 ≤ r4 → V 119 S3 [v1, v2, v3, v4, r4]) ∧ (¬ 0 ≤ r4 → ((¬ v4 = 0 → V 119 S3 [v1, v2, v3, v4, r4]) ∧ (v4 = 0 → wp_M_gather  [v2] S3 (fun r6 S5 => wp_M_place  [v3 + 2] S5 (fun r8 S7 => V 119 S7 [v1, v2, v3, v4, r8])))))))) ∧ (r2 = 0 → ∀ y9 : Int32, y9 = (-1) → ((0 ≤ y9 → V 119 S1 [v1, v2, v3, v4, y9]) ∧ (¬ 0 ≤ y9 → ((¬ v4 = 0 → V 119 S1 [v1, v2, v3, v4, y9]) ∧ (v4 = 0 → wp_M_gather  [v2] S1 (fun r11 S10 => wp_M_place  [v3 + 2] S10 (fun r13 S12 => V 119 S12 [v1, v2, v3, v4, r13])))))))))
  | 119, [v1, v2, v3, v4, v5] => ((0 ≤ v5 → wp_M_freeEntry  [] S (fun r2 S1 => (vp_in r2 41 ∧ ∀ S3 : GS, S3 = gx_set 1 (r2).toNatClampNeg 1 S1 → (vp_in r2 41 ∧ ∀ S4 : GS, S4 = gx_set 2 (r2).toNatClampNeg v5 S3 → (vp_in r2 41 ∧ ∀ S5 : GS, S5 = gx_set 3 (r2).toNatClampNeg v3 S4 → (vp_in r2 41 ∧ ∀ S6 : GS, S6 = gx_set 4 (r2).toNatClampNeg 0 S5 → (vp_in (v5 + 1) 400 ∧ ∀ S7 : GS, S7 = gx_set 5 (v5 + 1).toNatClampNeg v2 S6 → ∀ y8 : Int32, y8 = 0 → V 183 S7 [v1, v2, v3, v4, v5, r2, y8]))))))) ∧ (¬ 0 ≤ v5 → (∀ S9 : GS, S9 = gx_set 100 0 3 S → post 0 S9)))
  | 183, [v1, v2, v3, v4, v5, v6, v7] => ((v3 ≤ v7 → wp_M_comes  [v2] S (fun S1 => (vp_in v1 8 ∧ ∀ y3 : Int32, y3 = S1 0 (v1).toNatClampNeg → (vp_in v1 8 ∧ ∀ S4 : GS, S4 = gx_set 0 (v1).toNatClampNeg (2 * v6) S1 → wp_M_replace  [y3, 2 * v6] S4 (fun r6 S5 => post (2 * v6) S5))))) ∧ (¬ v3 ≤ v7 → (vp_in ((v5 + 2) + v7) 400 ∧ ∀ S7 : GS, S7 = gx_set 5 ((v5 + 2) + v7).toNatClampNeg 0 S → (∀ y8 : Int32, y8 = v7 + 1 → V 183 S7 [v1, v2, v3, v4, v5, v6, y8]))))
  | _, _ => False
def wp_M_instantiate (xs : List Int32) (S : GS) (post : Int32 → GS → Prop) : Prop := ∀ V : Nat → GS → List Int32 → Prop, (∀ h S xs, sp_M_instantiate post V h S xs → V h S xs) → V 0 S xs
def vh_M_instantiate (o : Nat → Nat) (G : GS → Nat → List (Nat × Value) → List Value → Prop) (h : Nat) (S : GS) (xs : List Int32) : Prop := match h, xs with
  | 0, [v1, v2, v3] => G S 0 [(0, .ref (o 0)), (1, .int v1), (2, .int v2), (3, .int v3)] []
  | 47, [v1, v2, v3] => G S 47 [(0, .ref (o 0)), (1, .int v1), (2, .int v2), (3, .int v3)] []
  | 73, [v1, v2, v3, v4] => G S 73 [(0, .ref (o 0)), (1, .int v1), (2, .int v2), (3, .int v3), (4, .int v4)] []
  | 119, [v1, v2, v3, v4, v5] => G S 119 [(0, .ref (o 0)), (1, .int v1), (2, .int v2), (3, .int v3), (4, .int v4), (5, .int v5)] []
  | 183, [v1, v2, v3, v4, v5, v6, v7] => G S 183 [(0, .ref (o 0)), (1, .int v1), (2, .int v2), (3, .int v3), (4, .int v4), (5, .int v5), (6, .int v6), (7, .int v7)] []
  | _, _ => True
set_option maxHeartbeats 4000000 in
set_option maxRecDepth 100000 in
theorem wk_M_instantiate_0 {l : Launch} {dC : Nat → ClassId} {dI : Nat → Nat → Nat} {cI cZ : ClassId} {o : Nat → Nat}  {p : Program} {e : Env} {s : State} {m : MethodId} {args : Array Value} {below : List Frame} {meth : Method} {c : Code} {A : Nat → Prop} {post : Int32 → GS → Prop} (C : GC p s m args c cM_instantiate 8 RM wsA (dC, dI) gx_cl [(cI, .int), (cZ, .boolean)] A) (hr : meth.sig.returnType = (some .int)) (hlocks : meth.locks = false) (S : GS) (v1 : Int32) (v2 : Int32) (v3 : Int32) (hs : sp_M_instantiate post (vh_M_instantiate o (GV p l e ({ frames := 4, cells := 0, slots := 0, locals := 91 }) s m args below meth c (MQ below (va_Qi post (GB (mw cI cZ o) (dC, dI) gx_cl [(cI, .int), (cZ, .boolean)] A) A) args s 0 0 A) 8 (dC, dI) gx_cl A (mw cI cZ o))) 0 S [v1, v2, v3]) : GV p l e ({ frames := 4, cells := 0, slots := 0, locals := 91 }) s m args below meth c (MQ below (va_Qi post (GB (mw cI cZ o) (dC, dI) gx_cl [(cI, .int), (cZ, .boolean)] A) A) args s 0 0 A) 8 (dC, dI) gx_cl A (mw cI cZ o) S 0 [(0, .ref (o 0)), (1, .int v1), (2, .int v2), (3, .int v3)] [] := by
  refine gx_aload_n C dM_instantiate_0 0 rfl rfl ?_
  refine gx_iload_n C dM_instantiate_1 1 rfl rfl ?_
  refine gx_calls (As := [.int v1]) (rest := [.ref (o 0)]) C (mt_M_isRegister l dC dI cI cZ o  _ _ _ hs) (gx_cwS C 1 ln_M_107 sm_M_isRegister in_CountedObjectsModel cd_M_isRegister rfl rfl (by decide +kernel) ⟨Nat.le_of_ble_eq_true rfl, Nat.le_of_ble_eq_true rfl⟩) rfl (Nat.le_of_ble_eq_true rfl) dM_instantiate_2 (fun S1 => mw_ad _ S1) rfl (fun r2 S1 hs => ?_)
  obtain ⟨ht, hf⟩ := hs
  refine gx_if_ne C dM_instantiate_5 12 rfl (fun hc => ?_) (fun hc => ?_)
  · have hs := ht hc
    refine gx_aload_n C dM_instantiate_12 0 rfl rfl ?_
    refine gx_iload_n C dM_instantiate_13 2 rfl rfl ?_
    refine gx_calli (As := [.int v2]) (rest := [.ref (o 0)]) C (mt_M_isValue l dC dI cI cZ o  _ _ _ hs) (gx_cwV C 1 ln_M_110 im_M_isValue se_M_isValue in_CountedObjectsModel cd_M_isValue rfl rfl (by decide +kernel) ⟨Nat.le_of_ble_eq_true rfl, Nat.le_of_ble_eq_true rfl⟩) mo_this rfl (Nat.le_of_ble_eq_true rfl) dM_instantiate_14 (fun S1 => mw_ad _ S1) rfl (fun r4 S3 hs => ?_)
    obtain ⟨ht, hf⟩ := hs
    refine gx_if_eq C dM_instantiate_17 30 rfl (fun hc => ?_) (fun hc => ?_)
    · have hs := ht hc
      refine gx_iconst (v := 2) C dM_instantiate_30 (by decide) ?_
      refine gx_goto C dM_instantiate_31 35 rfl ?_
      refine gx_put C mo_this hi_M tyM tyM_ok nmM 0 (by decide) fl_M_58 rfl (by decide +kernel) (Nat.le_of_ble_eq_true rfl) (mp_thrown _ _) dM_instantiate_35 (fun S5 eS5 => ?_)
      replace hs := hs S5 eS5
      refine gx_aload_n C dM_instantiate_38 0 rfl rfl ?_
      refine gx_get C mo_this hi_M 0 (by decide) fl_M_58 rfl dM_instantiate_39 ?_
      obtain ⟨ht, hf⟩ := hs
      refine gx_if_eq C dM_instantiate_42 47 rfl (fun hc => ?_) (fun hc => ?_)
      · have hs := ht hc
        exact hs
      · have hs := hf hc
        refine gx_iconst (v := 0) C dM_instantiate_45 (by decide) ?_
        exact gx_iret C hr hlocks dM_instantiate_46 hs
    · have hs := hf hc
      refine gx_iload_n C dM_instantiate_20 3 rfl rfl ?_
      obtain ⟨ht, hf⟩ := hs
      refine gx_if_lt C dM_instantiate_21 30 rfl (fun hc => ?_) (fun hc => ?_)
      · have hs := ht hc
        refine gx_iconst (v := 2) C dM_instantiate_30 (by decide) ?_
        refine gx_goto C dM_instantiate_31 35 rfl ?_
        refine gx_put C mo_this hi_M tyM tyM_ok nmM 0 (by decide) fl_M_58 rfl (by decide +kernel) (Nat.le_of_ble_eq_true rfl) (mp_thrown _ _) dM_instantiate_35 (fun S6 eS6 => ?_)
        replace hs := hs S6 eS6
        refine gx_aload_n C dM_instantiate_38 0 rfl rfl ?_
        refine gx_get C mo_this hi_M 0 (by decide) fl_M_58 rfl dM_instantiate_39 ?_
        obtain ⟨ht, hf⟩ := hs
        refine gx_if_eq C dM_instantiate_42 47 rfl (fun hc => ?_) (fun hc => ?_)
        · have hs := ht hc
          exact hs
        · have hs := hf hc
          refine gx_iconst (v := 0) C dM_instantiate_45 (by decide) ?_
          exact gx_iret C hr hlocks dM_instantiate_46 hs
      · have hs := hf hc
        refine gx_iload_n C dM_instantiate_24 3 rfl rfl ?_
        refine gx_bipush (v := 20) C dM_instantiate_25 (by decide) ?_
        obtain ⟨ht, hf⟩ := hs
        refine gx_icmp_le C dM_instantiate_27 34 rfl (fun hc => ?_) (fun hc => ?_)
        · have hs := ht hc
          refine gx_iconst (v := 0) C dM_instantiate_34 (by decide) ?_
          refine gx_put C mo_this hi_M tyM tyM_ok nmM 0 (by decide) fl_M_58 rfl (by decide +kernel) (Nat.le_of_ble_eq_true rfl) (mp_thrown _ _) dM_instantiate_35 (fun S7 eS7 => ?_)
          replace hs := hs S7 eS7
          refine gx_aload_n C dM_instantiate_38 0 rfl rfl ?_
          refine gx_get C mo_this hi_M 0 (by decide) fl_M_58 rfl dM_instantiate_39 ?_
          obtain ⟨ht, hf⟩ := hs
          refine gx_if_eq C dM_instantiate_42 47 rfl (fun hc => ?_) (fun hc => ?_)
          · have hs := ht hc
            exact hs
          · have hs := hf hc
            refine gx_iconst (v := 0) C dM_instantiate_45 (by decide) ?_
            exact gx_iret C hr hlocks dM_instantiate_46 hs
        · have hs := hf hc
          refine gx_iconst (v := 2) C dM_instantiate_30 (by decide) ?_
          refine gx_goto C dM_instantiate_31 35 rfl ?_
          refine gx_put C mo_this hi_M tyM tyM_ok nmM 0 (by decide) fl_M_58 rfl (by decide +kernel) (Nat.le_of_ble_eq_true rfl) (mp_thrown _ _) dM_instantiate_35 (fun S8 eS8 => ?_)
          replace hs := hs S8 eS8
          refine gx_aload_n C dM_instantiate_38 0 rfl rfl ?_
          refine gx_get C mo_this hi_M 0 (by decide) fl_M_58 rfl dM_instantiate_39 ?_
          obtain ⟨ht, hf⟩ := hs
          refine gx_if_eq C dM_instantiate_42 47 rfl (fun hc => ?_) (fun hc => ?_)
          · have hs := ht hc
            exact hs
          · have hs := hf hc
            refine gx_iconst (v := 0) C dM_instantiate_45 (by decide) ?_
            exact gx_iret C hr hlocks dM_instantiate_46 hs
  · have hs := hf hc
    refine gx_iconst (v := 1) C dM_instantiate_8 (by decide) ?_
    refine gx_goto C dM_instantiate_9 35 rfl ?_
    refine gx_put C mo_this hi_M tyM tyM_ok nmM 0 (by decide) fl_M_58 rfl (by decide +kernel) (Nat.le_of_ble_eq_true rfl) (mp_thrown _ _) dM_instantiate_35 (fun S9 eS9 => ?_)
    replace hs := hs S9 eS9
    refine gx_aload_n C dM_instantiate_38 0 rfl rfl ?_
    refine gx_get C mo_this hi_M 0 (by decide) fl_M_58 rfl dM_instantiate_39 ?_
    obtain ⟨ht, hf⟩ := hs
    refine gx_if_eq C dM_instantiate_42 47 rfl (fun hc => ?_) (fun hc => ?_)
    · have hs := ht hc
      exact hs
    · have hs := hf hc
      refine gx_iconst (v := 0) C dM_instantiate_45 (by decide) ?_
      exact gx_iret C hr hlocks dM_instantiate_46 hs
set_option maxHeartbeats 4000000 in
set_option maxRecDepth 100000 in
theorem wk_M_instantiate_47 {l : Launch} {dC : Nat → ClassId} {dI : Nat → Nat → Nat} {cI cZ : ClassId} {o : Nat → Nat}  {p : Program} {e : Env} {s : State} {m : MethodId} {args : Array Value} {below : List Frame} {meth : Method} {c : Code} {A : Nat → Prop} {post : Int32 → GS → Prop} (C : GC p s m args c cM_instantiate 8 RM wsA (dC, dI) gx_cl [(cI, .int), (cZ, .boolean)] A) (hr : meth.sig.returnType = (some .int)) (hlocks : meth.locks = false) (S : GS) (v1 : Int32) (v2 : Int32) (v3 : Int32) (hs : sp_M_instantiate post (vh_M_instantiate o (GV p l e ({ frames := 4, cells := 0, slots := 0, locals := 91 }) s m args below meth c (MQ below (va_Qi post (GB (mw cI cZ o) (dC, dI) gx_cl [(cI, .int), (cZ, .boolean)] A) A) args s 0 0 A) 8 (dC, dI) gx_cl A (mw cI cZ o))) 47 S [v1, v2, v3]) : GV p l e ({ frames := 4, cells := 0, slots := 0, locals := 91 }) s m args below meth c (MQ below (va_Qi post (GB (mw cI cZ o) (dC, dI) gx_cl [(cI, .int), (cZ, .boolean)] A) A) args s 0 0 A) 8 (dC, dI) gx_cl A (mw cI cZ o) S 47 [(0, .ref (o 0)), (1, .int v1), (2, .int v2), (3, .int v3)] [] := by
  refine gx_aload_n C dM_instantiate_47 0 rfl rfl ?_
  refine gx_calli (As := []) (rest := []) C (mt_M_freeEntry l dC dI cI cZ o  _ _ hs) (gx_cwV C 0 ln_M_113 im_M_freeEntry se_M_freeEntry in_CountedObjectsModel cd_M_freeEntry rfl rfl (by decide +kernel) ⟨Nat.le_of_ble_eq_true rfl, Nat.le_of_ble_eq_true rfl⟩) mo_this rfl (Nat.le_of_ble_eq_true rfl) dM_instantiate_48 (fun S1 => mw_ad _ S1) rfl (fun r2 S1 hs => ?_)
  obtain ⟨ht, hf⟩ := hs
  refine gx_if_ne C dM_instantiate_51 58 rfl (fun hc => ?_) (fun hc => ?_)
  · have hs := ht hc
    refine gx_iconst (v := 0) C dM_instantiate_58 (by decide) ?_
    refine gx_top (fun y3 ey3 => ?_)
    replace hs := hs y3 ey3
    refine gx_istore (L' := [(4, .int y3), (0, .ref (o 0)), (1, .int v1), (2, .int v2), (3, .int v3)]) C dM_instantiate_59 (by decide) rfl ?_
    refine gx_iload C dM_instantiate_61 0 rfl ?_
    obtain ⟨ht, hf⟩ := hs
    refine gx_if_eq C dM_instantiate_63 73 rfl (fun hc => ?_) (fun hc => ?_)
    · have hs := ht hc
      exact gx_sub [1, 2, 3, 4, 0] rfl hs
    · have hs := hf hc
      refine gx_aload_n C dM_instantiate_66 1 rfl rfl ?_
      refine gx_iload_n C dM_instantiate_67 3 rfl rfl ?_
      refine gx_calli (As := [.int v2]) (rest := []) C (mt_M_gather l dC dI cI cZ o  _ _ _ hs) (gx_cwV C 1 ln_M_116 im_M_gather se_M_gather in_CountedObjectsModel cd_M_gather rfl rfl (by decide +kernel) ⟨Nat.le_of_ble_eq_true rfl, Nat.le_of_ble_eq_true rfl⟩) mo_this rfl (Nat.le_of_ble_eq_true rfl) dM_instantiate_68 (fun S1 => mw_ad _ S1) rfl (fun r5 S4 hs => ?_)
      refine gx_istore (L' := [(5, .int r5), (4, .int y3), (0, .ref (o 0)), (1, .int v1), (2, .int v2), (3, .int v3)]) C dM_instantiate_71 (by decide) rfl ?_
      exact gx_sub [2, 3, 4, 5, 1] rfl hs
  · have hs := hf hc
    refine gx_iconst (v := 1) C dM_instantiate_54 (by decide) ?_
    refine gx_goto C dM_instantiate_55 59 rfl ?_
    refine gx_top (fun y6 ey6 => ?_)
    replace hs := hs y6 ey6
    refine gx_istore (L' := [(4, .int y6), (0, .ref (o 0)), (1, .int v1), (2, .int v2), (3, .int v3)]) C dM_instantiate_59 (by decide) rfl ?_
    refine gx_iload C dM_instantiate_61 0 rfl ?_
    obtain ⟨ht, hf⟩ := hs
    refine gx_if_eq C dM_instantiate_63 73 rfl (fun hc => ?_) (fun hc => ?_)
    · have hs := ht hc
      exact gx_sub [1, 2, 3, 4, 0] rfl hs
    · have hs := hf hc
      refine gx_aload_n C dM_instantiate_66 1 rfl rfl ?_
      refine gx_iload_n C dM_instantiate_67 3 rfl rfl ?_
      refine gx_calli (As := [.int v2]) (rest := []) C (mt_M_gather l dC dI cI cZ o  _ _ _ hs) (gx_cwV C 1 ln_M_116 im_M_gather se_M_gather in_CountedObjectsModel cd_M_gather rfl rfl (by decide +kernel) ⟨Nat.le_of_ble_eq_true rfl, Nat.le_of_ble_eq_true rfl⟩) mo_this rfl (Nat.le_of_ble_eq_true rfl) dM_instantiate_68 (fun S1 => mw_ad _ S1) rfl (fun r8 S7 hs => ?_)
      refine gx_istore (L' := [(5, .int r8), (4, .int y6), (0, .ref (o 0)), (1, .int v1), (2, .int v2), (3, .int v3)]) C dM_instantiate_71 (by decide) rfl ?_
      exact gx_sub [2, 3, 4, 5, 1] rfl hs
set_option maxHeartbeats 4000000 in
set_option maxRecDepth 100000 in
theorem wk_M_instantiate_73 {l : Launch} {dC : Nat → ClassId} {dI : Nat → Nat → Nat} {cI cZ : ClassId} {o : Nat → Nat}  {p : Program} {e : Env} {s : State} {m : MethodId} {args : Array Value} {below : List Frame} {meth : Method} {c : Code} {A : Nat → Prop} {post : Int32 → GS → Prop} (C : GC p s m args c cM_instantiate 8 RM wsA (dC, dI) gx_cl [(cI, .int), (cZ, .boolean)] A) (hr : meth.sig.returnType = (some .int)) (hlocks : meth.locks = false) (S : GS) (v1 : Int32) (v2 : Int32) (v3 : Int32) (v4 : Int32) (hs : sp_M_instantiate post (vh_M_instantiate o (GV p l e ({ frames := 4, cells := 0, slots := 0, locals := 91 }) s m args below meth c (MQ below (va_Qi post (GB (mw cI cZ o) (dC, dI) gx_cl [(cI, .int), (cZ, .boolean)] A) A) args s 0 0 A) 8 (dC, dI) gx_cl A (mw cI cZ o))) 73 S [v1, v2, v3, v4]) : GV p l e ({ frames := 4, cells := 0, slots := 0, locals := 91 }) s m args below meth c (MQ below (va_Qi post (GB (mw cI cZ o) (dC, dI) gx_cl [(cI, .int), (cZ, .boolean)] A) A) args s 0 0 A) 8 (dC, dI) gx_cl A (mw cI cZ o) S 73 [(0, .ref (o 0)), (1, .int v1), (2, .int v2), (3, .int v3), (4, .int v4)] [] := by
  refine gx_aload_n C dM_instantiate_73 0 rfl rfl ?_
  refine gx_calli (As := []) (rest := []) C (mt_M_freeEntry l dC dI cI cZ o  _ _ hs) (gx_cwV C 0 ln_M_113 im_M_freeEntry se_M_freeEntry in_CountedObjectsModel cd_M_freeEntry rfl rfl (by decide +kernel) ⟨Nat.le_of_ble_eq_true rfl, Nat.le_of_ble_eq_true rfl⟩) mo_this rfl (Nat.le_of_ble_eq_true rfl) dM_instantiate_74 (fun S1 => mw_ad _ S1) rfl (fun r2 S1 hs => ?_)
  obtain ⟨ht, hf⟩ := hs
  refine gx_if_ne C dM_instantiate_77 84 rfl (fun hc => ?_) (fun hc => ?_)
  · have hs := ht hc
    refine gx_aload_n C dM_instantiate_84 0 rfl rfl ?_
    refine gx_iload_n C dM_instantiate_85 3 rfl rfl ?_
    refine gx_iconst (v := 2) C dM_instantiate_86 (by decide) ?_
    refine gx_iadd C dM_instantiate_87 ?_
    refine gx_calli (As := [.int (v3 + 2)]) (rest := []) C (mt_M_place l dC dI cI cZ o  _ _ _ hs) (gx_cwV C 1 ln_M_119 im_M_place se_M_place in_CountedObjectsModel cd_M_place rfl rfl (by decide +kernel) ⟨Nat.le_of_ble_eq_true rfl, Nat.le_of_ble_eq_true rfl⟩) mo_this rfl (Nat.le_of_ble_eq_true rfl) dM_instantiate_88 (fun S1 => mw_ad _ S1) rfl (fun r4 S3 hs => ?_)
    refine gx_istore (L' := [(5, .int r4), (0, .ref (o 0)), (1, .int v1), (2, .int v2), (3, .int v3), (4, .int v4)]) C dM_instantiate_91 (by decide) rfl ?_
    refine gx_iload C dM_instantiate_93 0 rfl ?_
    obtain ⟨ht, hf⟩ := hs
    refine gx_if_ge C dM_instantiate_95 119 rfl (fun hc => ?_) (fun hc => ?_)
    · have hs := ht hc
      exact gx_sub [1, 2, 3, 4, 5, 0] rfl hs
    · have hs := hf hc
      refine gx_iload C dM_instantiate_98 5 rfl ?_
      obtain ⟨ht, hf⟩ := hs
      refine gx_if_ne C dM_instantiate_100 119 rfl (fun hc => ?_) (fun hc => ?_)
      · have hs := ht hc
        exact gx_sub [1, 2, 3, 4, 5, 0] rfl hs
      · have hs := hf hc
        refine gx_aload_n C dM_instantiate_103 1 rfl rfl ?_
        refine gx_iload_n C dM_instantiate_104 3 rfl rfl ?_
        refine gx_calli (As := [.int v2]) (rest := []) C (mt_M_gather l dC dI cI cZ o  _ _ _ hs) (gx_cwV C 1 ln_M_116 im_M_gather se_M_gather in_CountedObjectsModel cd_M_gather rfl rfl (by decide +kernel) ⟨Nat.le_of_ble_eq_true rfl, Nat.le_of_ble_eq_true rfl⟩) mo_this rfl (Nat.le_of_ble_eq_true rfl) dM_instantiate_105 (fun S1 => mw_ad _ S1) rfl (fun r6 S5 hs => ?_)
        refine gx_istore (L' := [(6, .int r6), (5, .int r4), (0, .ref (o 0)), (1, .int v1), (2, .int v2), (3, .int v3), (4, .int v4)]) C dM_instantiate_108 (by decide) rfl ?_
        refine gx_aload_n C dM_instantiate_110 2 rfl rfl ?_
        refine gx_iload_n C dM_instantiate_111 5 rfl rfl ?_
        refine gx_iconst (v := 2) C dM_instantiate_112 (by decide) ?_
        refine gx_iadd C dM_instantiate_113 ?_
        refine gx_calli (As := [.int (v3 + 2)]) (rest := []) C (mt_M_place l dC dI cI cZ o  _ _ _ hs) (gx_cwV C 1 ln_M_119 im_M_place se_M_place in_CountedObjectsModel cd_M_place rfl rfl (by decide +kernel) ⟨Nat.le_of_ble_eq_true rfl, Nat.le_of_ble_eq_true rfl⟩) mo_this rfl (Nat.le_of_ble_eq_true rfl) dM_instantiate_114 (fun S1 => mw_ad _ S1) rfl (fun r8 S7 hs => ?_)
        refine gx_istore (L' := [(5, .int r8), (6, .int r6), (0, .ref (o 0)), (1, .int v1), (2, .int v2), (3, .int v3), (4, .int v4)]) C dM_instantiate_117 (by decide) rfl ?_
        exact gx_sub [2, 3, 4, 5, 6, 0] rfl hs
  · have hs := hf hc
    refine gx_iconst (v := (-1)) C dM_instantiate_80 (by decide) ?_
    refine gx_goto C dM_instantiate_81 91 rfl ?_
    refine gx_top (fun y9 ey9 => ?_)
    replace hs := hs y9 ey9
    refine gx_istore (L' := [(5, .int y9), (0, .ref (o 0)), (1, .int v1), (2, .int v2), (3, .int v3), (4, .int v4)]) C dM_instantiate_91 (by decide) rfl ?_
    refine gx_iload C dM_instantiate_93 0 rfl ?_
    obtain ⟨ht, hf⟩ := hs
    refine gx_if_ge C dM_instantiate_95 119 rfl (fun hc => ?_) (fun hc => ?_)
    · have hs := ht hc
      exact gx_sub [1, 2, 3, 4, 5, 0] rfl hs
    · have hs := hf hc
      refine gx_iload C dM_instantiate_98 5 rfl ?_
      obtain ⟨ht, hf⟩ := hs
      refine gx_if_ne C dM_instantiate_100 119 rfl (fun hc => ?_) (fun hc => ?_)
      · have hs := ht hc
        exact gx_sub [1, 2, 3, 4, 5, 0] rfl hs
      · have hs := hf hc
        refine gx_aload_n C dM_instantiate_103 1 rfl rfl ?_
        refine gx_iload_n C dM_instantiate_104 3 rfl rfl ?_
        refine gx_calli (As := [.int v2]) (rest := []) C (mt_M_gather l dC dI cI cZ o  _ _ _ hs) (gx_cwV C 1 ln_M_116 im_M_gather se_M_gather in_CountedObjectsModel cd_M_gather rfl rfl (by decide +kernel) ⟨Nat.le_of_ble_eq_true rfl, Nat.le_of_ble_eq_true rfl⟩) mo_this rfl (Nat.le_of_ble_eq_true rfl) dM_instantiate_105 (fun S1 => mw_ad _ S1) rfl (fun r11 S10 hs => ?_)
        refine gx_istore (L' := [(6, .int r11), (5, .int y9), (0, .ref (o 0)), (1, .int v1), (2, .int v2), (3, .int v3), (4, .int v4)]) C dM_instantiate_108 (by decide) rfl ?_
        refine gx_aload_n C dM_instantiate_110 2 rfl rfl ?_
        refine gx_iload_n C dM_instantiate_111 5 rfl rfl ?_
        refine gx_iconst (v := 2) C dM_instantiate_112 (by decide) ?_
        refine gx_iadd C dM_instantiate_113 ?_
        refine gx_calli (As := [.int (v3 + 2)]) (rest := []) C (mt_M_place l dC dI cI cZ o  _ _ _ hs) (gx_cwV C 1 ln_M_119 im_M_place se_M_place in_CountedObjectsModel cd_M_place rfl rfl (by decide +kernel) ⟨Nat.le_of_ble_eq_true rfl, Nat.le_of_ble_eq_true rfl⟩) mo_this rfl (Nat.le_of_ble_eq_true rfl) dM_instantiate_114 (fun S1 => mw_ad _ S1) rfl (fun r13 S12 hs => ?_)
        refine gx_istore (L' := [(5, .int r13), (6, .int r11), (0, .ref (o 0)), (1, .int v1), (2, .int v2), (3, .int v3), (4, .int v4)]) C dM_instantiate_117 (by decide) rfl ?_
        exact gx_sub [2, 3, 4, 5, 6, 0] rfl hs
set_option maxHeartbeats 4000000 in
set_option maxRecDepth 100000 in
theorem wk_M_instantiate_119 {l : Launch} {dC : Nat → ClassId} {dI : Nat → Nat → Nat} {cI cZ : ClassId} {o : Nat → Nat}  {p : Program} {e : Env} {s : State} {m : MethodId} {args : Array Value} {below : List Frame} {meth : Method} {c : Code} {A : Nat → Prop} {post : Int32 → GS → Prop} (C : GC p s m args c cM_instantiate 8 RM wsA (dC, dI) gx_cl [(cI, .int), (cZ, .boolean)] A) (hr : meth.sig.returnType = (some .int)) (hlocks : meth.locks = false) (S : GS) (v1 : Int32) (v2 : Int32) (v3 : Int32) (v4 : Int32) (v5 : Int32) (hs : sp_M_instantiate post (vh_M_instantiate o (GV p l e ({ frames := 4, cells := 0, slots := 0, locals := 91 }) s m args below meth c (MQ below (va_Qi post (GB (mw cI cZ o) (dC, dI) gx_cl [(cI, .int), (cZ, .boolean)] A) A) args s 0 0 A) 8 (dC, dI) gx_cl A (mw cI cZ o))) 119 S [v1, v2, v3, v4, v5]) : GV p l e ({ frames := 4, cells := 0, slots := 0, locals := 91 }) s m args below meth c (MQ below (va_Qi post (GB (mw cI cZ o) (dC, dI) gx_cl [(cI, .int), (cZ, .boolean)] A) A) args s 0 0 A) 8 (dC, dI) gx_cl A (mw cI cZ o) S 119 [(0, .ref (o 0)), (1, .int v1), (2, .int v2), (3, .int v3), (4, .int v4), (5, .int v5)] [] := by
  refine gx_iload C dM_instantiate_119 5 rfl ?_
  obtain ⟨ht, hf⟩ := hs
  refine gx_if_ge C dM_instantiate_121 131 rfl (fun hc => ?_) (fun hc => ?_)
  · have hs := ht hc
    refine gx_aload_n C dM_instantiate_131 0 rfl rfl ?_
    refine gx_calli (As := []) (rest := []) C (mt_M_freeEntry l dC dI cI cZ o  _ _ hs) (gx_cwV C 0 ln_M_113 im_M_freeEntry se_M_freeEntry in_CountedObjectsModel cd_M_freeEntry rfl rfl (by decide +kernel) ⟨Nat.le_of_ble_eq_true rfl, Nat.le_of_ble_eq_true rfl⟩) mo_this rfl (Nat.le_of_ble_eq_true rfl) dM_instantiate_132 (fun S1 => mw_ad _ S1) rfl (fun r2 S1 hs => ?_)
    refine gx_istore (L' := [(6, .int r2), (0, .ref (o 0)), (1, .int v1), (2, .int v2), (3, .int v3), (4, .int v4), (5, .int v5)]) C dM_instantiate_135 (by decide) rfl ?_
    refine gx_aload_n C dM_instantiate_137 1 rfl rfl ?_
    refine gx_get C mo_this hi_M 4 (by decide) fl_M_13 rfl dM_instantiate_138 ?_
    refine gx_iload C dM_instantiate_141 0 rfl ?_
    refine gx_iconst (v := 1) C dM_instantiate_143 (by decide) ?_
    obtain ⟨hin, hs⟩ := hs
    refine gx_zast C ma_lives hin (by decide) dM_instantiate_144 (fun S3 eS3 => ?_)
    replace hs := hs S3 eS3
    refine gx_aload_n C dM_instantiate_145 1 rfl rfl ?_
    refine gx_get C mo_this hi_M 5 (by decide) fl_M_17 rfl dM_instantiate_146 ?_
    refine gx_iload C dM_instantiate_149 0 rfl ?_
    refine gx_iload C dM_instantiate_151 6 rfl ?_
    obtain ⟨hin, hs⟩ := hs
    refine gx_iast C ma_addresses hin dM_instantiate_153 (fun S4 eS4 => ?_)
    replace hs := hs S4 eS4
    refine gx_aload_n C dM_instantiate_154 1 rfl rfl ?_
    refine gx_get C mo_this hi_M 6 (by decide) fl_M_20 rfl dM_instantiate_155 ?_
    refine gx_iload C dM_instantiate_158 0 rfl ?_
    refine gx_iload_n C dM_instantiate_160 4 rfl rfl ?_
    obtain ⟨hin, hs⟩ := hs
    refine gx_iast C ma_sizes hin dM_instantiate_161 (fun S5 eS5 => ?_)
    replace hs := hs S5 eS5
    refine gx_aload_n C dM_instantiate_162 1 rfl rfl ?_
    refine gx_get C mo_this hi_M 7 (by decide) fl_M_23 rfl dM_instantiate_163 ?_
    refine gx_iload C dM_instantiate_166 0 rfl ?_
    refine gx_iconst (v := 0) C dM_instantiate_168 (by decide) ?_
    obtain ⟨hin, hs⟩ := hs
    refine gx_iast C ma_counts hin dM_instantiate_169 (fun S6 eS6 => ?_)
    replace hs := hs S6 eS6
    refine gx_aload_n C dM_instantiate_170 1 rfl rfl ?_
    refine gx_get C mo_this hi_M 8 (by decide) fl_M_26 rfl dM_instantiate_171 ?_
    refine gx_iload C dM_instantiate_174 6 rfl ?_
    refine gx_iconst (v := 1) C dM_instantiate_176 (by decide) ?_
    refine gx_iadd C dM_instantiate_177 ?_
    refine gx_iload_n C dM_instantiate_178 3 rfl rfl ?_
    obtain ⟨hin, hs⟩ := hs
    refine gx_iast C ma_word hin dM_instantiate_179 (fun S7 eS7 => ?_)
    replace hs := hs S7 eS7
    refine gx_iconst (v := 0) C dM_instantiate_180 (by decide) ?_
    refine gx_top (fun y8 ey8 => ?_)
    replace hs := hs y8 ey8
    refine gx_istore (L' := [(7, .int y8), (6, .int r2), (0, .ref (o 0)), (1, .int v1), (2, .int v2), (3, .int v3), (4, .int v4), (5, .int v5)]) C dM_instantiate_181 (by decide) rfl ?_
    exact gx_sub [2, 3, 4, 5, 6, 7, 1, 0] rfl hs
  · have hs := hf hc
    refine gx_aload_n C dM_instantiate_124 0 rfl rfl ?_
    refine gx_iconst (v := 3) C dM_instantiate_125 (by decide) ?_
    refine gx_put C mo_this hi_M tyM tyM_ok nmM 0 (by decide) fl_M_58 rfl (by decide +kernel) (Nat.le_of_ble_eq_true rfl) (mp_thrown _ _) dM_instantiate_126 (fun S9 eS9 => ?_)
    replace hs := hs S9 eS9
    refine gx_iconst (v := 0) C dM_instantiate_129 (by decide) ?_
    exact gx_iret C hr hlocks dM_instantiate_130 hs
set_option maxHeartbeats 4000000 in
set_option maxRecDepth 100000 in
theorem wk_M_instantiate_183 {l : Launch} {dC : Nat → ClassId} {dI : Nat → Nat → Nat} {cI cZ : ClassId} {o : Nat → Nat}  {p : Program} {e : Env} {s : State} {m : MethodId} {args : Array Value} {below : List Frame} {meth : Method} {c : Code} {A : Nat → Prop} {post : Int32 → GS → Prop} (C : GC p s m args c cM_instantiate 8 RM wsA (dC, dI) gx_cl [(cI, .int), (cZ, .boolean)] A) (hr : meth.sig.returnType = (some .int)) (hlocks : meth.locks = false) (S : GS) (v1 : Int32) (v2 : Int32) (v3 : Int32) (v4 : Int32) (v5 : Int32) (v6 : Int32) (v7 : Int32) (hs : sp_M_instantiate post (vh_M_instantiate o (GV p l e ({ frames := 4, cells := 0, slots := 0, locals := 91 }) s m args below meth c (MQ below (va_Qi post (GB (mw cI cZ o) (dC, dI) gx_cl [(cI, .int), (cZ, .boolean)] A) A) args s 0 0 A) 8 (dC, dI) gx_cl A (mw cI cZ o))) 183 S [v1, v2, v3, v4, v5, v6, v7]) : GV p l e ({ frames := 4, cells := 0, slots := 0, locals := 91 }) s m args below meth c (MQ below (va_Qi post (GB (mw cI cZ o) (dC, dI) gx_cl [(cI, .int), (cZ, .boolean)] A) A) args s 0 0 A) 8 (dC, dI) gx_cl A (mw cI cZ o) S 183 [(0, .ref (o 0)), (1, .int v1), (2, .int v2), (3, .int v3), (4, .int v4), (5, .int v5), (6, .int v6), (7, .int v7)] [] := by
  refine gx_iload C dM_instantiate_183 7 rfl ?_
  refine gx_iload_n C dM_instantiate_185 3 rfl rfl ?_
  obtain ⟨ht, hf⟩ := hs
  refine gx_icmp_ge C dM_instantiate_186 208 rfl (fun hc => ?_) (fun hc => ?_)
  · have hs := ht hc
    refine gx_aload_n C dM_instantiate_208 0 rfl rfl ?_
    refine gx_iload_n C dM_instantiate_209 2 rfl rfl ?_
    refine gx_callv (As := [.int v2]) (rest := []) C (mt_M_comes l dC dI cI cZ o  _ _ _ hs) (gx_cwV C 1 ln_M_95 im_M_comes se_M_comes in_CountedObjectsModel cd_M_comes rfl rfl (by decide +kernel) ⟨Nat.le_of_ble_eq_true rfl, Nat.le_of_ble_eq_true rfl⟩) mo_this rfl (Nat.le_of_ble_eq_true rfl) dM_instantiate_210 (fun S1 => mw_ad _ S1) rfl (fun S1 hs => ?_)
    refine gx_aload_n C dM_instantiate_213 0 rfl rfl ?_
    refine gx_get C mo_this hi_M 3 (by decide) fl_M_7 rfl dM_instantiate_214 ?_
    refine gx_iload_n C dM_instantiate_217 1 rfl rfl ?_
    obtain ⟨hin, hs⟩ := hs
    refine gx_iald C ma_registers hin dM_instantiate_218 ?_
    refine gx_top (fun y3 ey3 => ?_)
    replace hs := hs y3 ey3
    refine gx_istore (L' := [(7, .int y3), (0, .ref (o 0)), (1, .int v1), (2, .int v2), (3, .int v3), (4, .int v4), (5, .int v5), (6, .int v6)]) C dM_instantiate_219 (by decide) rfl ?_
    refine gx_aload_n C dM_instantiate_221 1 rfl rfl ?_
    refine gx_get C mo_this hi_M 3 (by decide) fl_M_7 rfl dM_instantiate_222 ?_
    refine gx_iload_n C dM_instantiate_225 2 rfl rfl ?_
    refine gx_iconst (v := 2) C dM_instantiate_226 (by decide) ?_
    refine gx_iload C dM_instantiate_227 7 rfl ?_
    refine gx_imul C dM_instantiate_229 ?_
    obtain ⟨hin, hs⟩ := hs
    refine gx_iast C ma_registers hin dM_instantiate_230 (fun S4 eS4 => ?_)
    replace hs := hs S4 eS4
    refine gx_aload_n C dM_instantiate_231 1 rfl rfl ?_
    refine gx_iload C dM_instantiate_232 0 rfl ?_
    refine gx_iconst (v := 2) C dM_instantiate_234 (by decide) ?_
    refine gx_iload C dM_instantiate_235 7 rfl ?_
    refine gx_imul C dM_instantiate_237 ?_
    refine gx_calli (As := [.int y3, .int (2 * v6)]) (rest := []) C (mt_M_replace l dC dI cI cZ o  _ _ _ _ hs) (gx_cwV C 2 ln_M_122 im_M_replace se_M_replace in_CountedObjectsModel cd_M_replace rfl rfl (by decide +kernel) ⟨Nat.le_of_ble_eq_true rfl, Nat.le_of_ble_eq_true rfl⟩) mo_this rfl (Nat.le_of_ble_eq_true rfl) dM_instantiate_238 (fun S1 => mw_ad _ S1) rfl (fun r6 S5 hs => ?_)
    refine gx_istore (L' := [(7, .int r6), (0, .ref (o 0)), (1, .int v1), (2, .int v2), (3, .int v3), (4, .int v4), (5, .int v5), (6, .int v6)]) C dM_instantiate_241 (by decide) rfl ?_
    refine gx_iconst (v := 2) C dM_instantiate_243 (by decide) ?_
    refine gx_iload C dM_instantiate_244 7 rfl ?_
    refine gx_imul C dM_instantiate_246 ?_
    exact gx_iret C hr hlocks dM_instantiate_247 hs
  · have hs := hf hc
    refine gx_aload_n C dM_instantiate_189 0 rfl rfl ?_
    refine gx_get C mo_this hi_M 8 (by decide) fl_M_26 rfl dM_instantiate_190 ?_
    refine gx_iload C dM_instantiate_193 5 rfl ?_
    refine gx_iconst (v := 2) C dM_instantiate_195 (by decide) ?_
    refine gx_iadd C dM_instantiate_196 ?_
    refine gx_iload C dM_instantiate_197 7 rfl ?_
    refine gx_iadd C dM_instantiate_199 ?_
    refine gx_iconst (v := 0) C dM_instantiate_200 (by decide) ?_
    obtain ⟨hin, hs⟩ := hs
    refine gx_iast C ma_word hin dM_instantiate_201 (fun S7 eS7 => ?_)
    replace hs := hs S7 eS7
    refine gx_iinc (v0 := 1) (f := fun v => [(7, .int v), (0, .ref (o 0)), (1, .int v1), (2, .int v2), (3, .int v3), (4, .int v4), (5, .int v5), (6, .int v6)]) C dM_instantiate_202 7 rfl (by decide) (by decide) (fun _ => rfl) (fun y8 ey8 => ?_)
    replace hs := hs y8 ey8
    refine gx_goto C dM_instantiate_205 183 rfl ?_
    exact gx_sub [1, 2, 3, 4, 5, 6, 7, 0] rfl hs
set_option maxHeartbeats 4000000 in
set_option maxRecDepth 100000 in
theorem mt_M_instantiate (l : Launch) (dC : Nat → ClassId) (dI : Nat → Nat → Nat) (cI cZ : ClassId) (o : Nat → Nat) (v1 : Int32) (v2 : Int32) (v3 : Int32) (S : GS) (post : Int32 → GS → Prop) (h : wp_M_instantiate [v1, v2, v3] S post) : MetI l yM_instantiate (Cond.code yM_instantiate cM_instantiate 8 (some .int) :: wsA) ({ frames := 4, cells := 0, slots := 0, locals := 91 }) (dC, dI) gx_cl [(cI, .int), (cZ, .boolean)] (mw cI cZ o) [.ref (o 0), .int v1, .int v2, .int v3] S post := by
  refine gx_metI (by decide) wsA_good (Nat.le_of_ble_eq_true rfl) ?_
  intro p e s m args below meth c A C hr hlocks
  refine h (vh_M_instantiate o (GV p l e ({ frames := 4, cells := 0, slots := 0, locals := 91 }) s m args below meth c (MQ below (va_Qi post (GB (mw cI cZ o) (dC, dI) gx_cl [(cI, .int), (cZ, .boolean)] A) A) args s 0 0 A) 8 (dC, dI) gx_cl A (mw cI cZ o))) (fun h S xs hs => ?_)
  unfold sp_M_instantiate at hs
  split at hs
  · exact wk_M_instantiate_0 C hr hlocks _ _ _ _ hs
  · exact wk_M_instantiate_47 C hr hlocks _ _ _ _ hs
  · exact wk_M_instantiate_73 C hr hlocks _ _ _ _ _ hs
  · exact wk_M_instantiate_119 C hr hlocks _ _ _ _ _ _ hs
  · exact wk_M_instantiate_183 C hr hlocks _ _ _ _ _ _ _ _ hs
  · exact hs.elim
/-- CountedObjectsModel.set(II)I: a step from head to head -/
def sp_M_set (post : Int32 → GS → Prop) (V : Nat → GS → List Int32 → Prop) (h : Nat) (S : GS) (xs : List Int32) : Prop := match h, xs with
  | 0, [v1, v2] => wp_M_isRegister  [v1] S (fun r2 S1 => ((¬ r2 = 0 → wp_M_isValue  [v2] S1 (fun r4 S3 => ((¬ r4 = 0 → (∀ S5 : GS, S5 = gx_set 100 0 0 S3 → (((S5 100 0) = 0 → V 37 S5 [v1, v2]) ∧ (¬ (S5 100 0) = 0 → post 0 S5)))) ∧ (r4 = 0 → (∀ S6 : GS, S6 = gx_set 100 0 2 S3 → (((S6 100 0) = 0 → V 37 S6 [v1, v2]) ∧ (¬ (S6 100 0) = 0 → post 0 S6))))))) ∧ (r2 = 0 → (∀ S7 : GS, S7 = gx_set 100 0 1 S1 → (((S7 100 0) = 0 → V 37 S7 [v1, v2]) ∧ (¬ (S7 100 0) = 0 → post 0 S7))))))
  | 37, [v1, v2] => (vp_in v1 8 ∧ ∀ y1 : Int32, y1 = S 0 (v1).toNatClampNeg → (vp_in v1 8 ∧ ∀ S2 : GS, S2 = gx_set 0 (v1).toNatClampNeg v2 S → wp_M_replace  [y1, v2] S2 (fun r4 S3 => post r4 S3)))
  | _, _ => False
def wp_M_set (xs : List Int32) (S : GS) (post : Int32 → GS → Prop) : Prop := ∀ V : Nat → GS → List Int32 → Prop, (∀ h S xs, sp_M_set post V h S xs → V h S xs) → V 0 S xs
def vh_M_set (o : Nat → Nat) (G : GS → Nat → List (Nat × Value) → List Value → Prop) (h : Nat) (S : GS) (xs : List Int32) : Prop := match h, xs with
  | 0, [v1, v2] => G S 0 [(0, .ref (o 0)), (1, .int v1), (2, .int v2)] []
  | 37, [v1, v2] => G S 37 [(0, .ref (o 0)), (1, .int v1), (2, .int v2)] []
  | _, _ => True
set_option maxHeartbeats 4000000 in
set_option maxRecDepth 100000 in
theorem wk_M_set_0 {l : Launch} {dC : Nat → ClassId} {dI : Nat → Nat → Nat} {cI cZ : ClassId} {o : Nat → Nat}  {p : Program} {e : Env} {s : State} {m : MethodId} {args : Array Value} {below : List Frame} {meth : Method} {c : Code} {A : Nat → Prop} {post : Int32 → GS → Prop} (C : GC p s m args c cM_set 4 RM wsA (dC, dI) gx_cl [(cI, .int), (cZ, .boolean)] A) (hr : meth.sig.returnType = (some .int)) (hlocks : meth.locks = false) (S : GS) (v1 : Int32) (v2 : Int32) (hs : sp_M_set post (vh_M_set o (GV p l e ({ frames := 4, cells := 0, slots := 0, locals := 88 }) s m args below meth c (MQ below (va_Qi post (GB (mw cI cZ o) (dC, dI) gx_cl [(cI, .int), (cZ, .boolean)] A) A) args s 0 0 A) 4 (dC, dI) gx_cl A (mw cI cZ o))) 0 S [v1, v2]) : GV p l e ({ frames := 4, cells := 0, slots := 0, locals := 88 }) s m args below meth c (MQ below (va_Qi post (GB (mw cI cZ o) (dC, dI) gx_cl [(cI, .int), (cZ, .boolean)] A) A) args s 0 0 A) 4 (dC, dI) gx_cl A (mw cI cZ o) S 0 [(0, .ref (o 0)), (1, .int v1), (2, .int v2)] [] := by
  refine gx_aload_n C dM_set_0 0 rfl rfl ?_
  refine gx_iload_n C dM_set_1 1 rfl rfl ?_
  refine gx_calls (As := [.int v1]) (rest := [.ref (o 0)]) C (mt_M_isRegister l dC dI cI cZ o  _ _ _ hs) (gx_cwS C 1 ln_M_107 sm_M_isRegister in_CountedObjectsModel cd_M_isRegister rfl rfl (by decide +kernel) ⟨Nat.le_of_ble_eq_true rfl, Nat.le_of_ble_eq_true rfl⟩) rfl (Nat.le_of_ble_eq_true rfl) dM_set_2 (fun S1 => mw_ad _ S1) rfl (fun r2 S1 hs => ?_)
  obtain ⟨ht, hf⟩ := hs
  refine gx_if_ne C dM_set_5 12 rfl (fun hc => ?_) (fun hc => ?_)
  · have hs := ht hc
    refine gx_aload_n C dM_set_12 0 rfl rfl ?_
    refine gx_iload_n C dM_set_13 2 rfl rfl ?_
    refine gx_calli (As := [.int v2]) (rest := [.ref (o 0)]) C (mt_M_isValue l dC dI cI cZ o  _ _ _ hs) (gx_cwV C 1 ln_M_110 im_M_isValue se_M_isValue in_CountedObjectsModel cd_M_isValue rfl rfl (by decide +kernel) ⟨Nat.le_of_ble_eq_true rfl, Nat.le_of_ble_eq_true rfl⟩) mo_this rfl (Nat.le_of_ble_eq_true rfl) dM_set_14 (fun S1 => mw_ad _ S1) rfl (fun r4 S3 hs => ?_)
    obtain ⟨ht, hf⟩ := hs
    refine gx_if_ne C dM_set_17 24 rfl (fun hc => ?_) (fun hc => ?_)
    · have hs := ht hc
      refine gx_iconst (v := 0) C dM_set_24 (by decide) ?_
      refine gx_put C mo_this hi_M tyM tyM_ok nmM 0 (by decide) fl_M_58 rfl (by decide +kernel) (Nat.le_of_ble_eq_true rfl) (mp_thrown _ _) dM_set_25 (fun S5 eS5 => ?_)
      replace hs := hs S5 eS5
      refine gx_aload_n C dM_set_28 0 rfl rfl ?_
      refine gx_get C mo_this hi_M 0 (by decide) fl_M_58 rfl dM_set_29 ?_
      obtain ⟨ht, hf⟩ := hs
      refine gx_if_eq C dM_set_32 37 rfl (fun hc => ?_) (fun hc => ?_)
      · have hs := ht hc
        exact hs
      · have hs := hf hc
        refine gx_iconst (v := 0) C dM_set_35 (by decide) ?_
        exact gx_iret C hr hlocks dM_set_36 hs
    · have hs := hf hc
      refine gx_iconst (v := 2) C dM_set_20 (by decide) ?_
      refine gx_goto C dM_set_21 25 rfl ?_
      refine gx_put C mo_this hi_M tyM tyM_ok nmM 0 (by decide) fl_M_58 rfl (by decide +kernel) (Nat.le_of_ble_eq_true rfl) (mp_thrown _ _) dM_set_25 (fun S6 eS6 => ?_)
      replace hs := hs S6 eS6
      refine gx_aload_n C dM_set_28 0 rfl rfl ?_
      refine gx_get C mo_this hi_M 0 (by decide) fl_M_58 rfl dM_set_29 ?_
      obtain ⟨ht, hf⟩ := hs
      refine gx_if_eq C dM_set_32 37 rfl (fun hc => ?_) (fun hc => ?_)
      · have hs := ht hc
        exact hs
      · have hs := hf hc
        refine gx_iconst (v := 0) C dM_set_35 (by decide) ?_
        exact gx_iret C hr hlocks dM_set_36 hs
  · have hs := hf hc
    refine gx_iconst (v := 1) C dM_set_8 (by decide) ?_
    refine gx_goto C dM_set_9 25 rfl ?_
    refine gx_put C mo_this hi_M tyM tyM_ok nmM 0 (by decide) fl_M_58 rfl (by decide +kernel) (Nat.le_of_ble_eq_true rfl) (mp_thrown _ _) dM_set_25 (fun S7 eS7 => ?_)
    replace hs := hs S7 eS7
    refine gx_aload_n C dM_set_28 0 rfl rfl ?_
    refine gx_get C mo_this hi_M 0 (by decide) fl_M_58 rfl dM_set_29 ?_
    obtain ⟨ht, hf⟩ := hs
    refine gx_if_eq C dM_set_32 37 rfl (fun hc => ?_) (fun hc => ?_)
    · have hs := ht hc
      exact hs
    · have hs := hf hc
      refine gx_iconst (v := 0) C dM_set_35 (by decide) ?_
      exact gx_iret C hr hlocks dM_set_36 hs
set_option maxHeartbeats 4000000 in
set_option maxRecDepth 100000 in
theorem wk_M_set_37 {l : Launch} {dC : Nat → ClassId} {dI : Nat → Nat → Nat} {cI cZ : ClassId} {o : Nat → Nat}  {p : Program} {e : Env} {s : State} {m : MethodId} {args : Array Value} {below : List Frame} {meth : Method} {c : Code} {A : Nat → Prop} {post : Int32 → GS → Prop} (C : GC p s m args c cM_set 4 RM wsA (dC, dI) gx_cl [(cI, .int), (cZ, .boolean)] A) (hr : meth.sig.returnType = (some .int)) (hlocks : meth.locks = false) (S : GS) (v1 : Int32) (v2 : Int32) (hs : sp_M_set post (vh_M_set o (GV p l e ({ frames := 4, cells := 0, slots := 0, locals := 88 }) s m args below meth c (MQ below (va_Qi post (GB (mw cI cZ o) (dC, dI) gx_cl [(cI, .int), (cZ, .boolean)] A) A) args s 0 0 A) 4 (dC, dI) gx_cl A (mw cI cZ o))) 37 S [v1, v2]) : GV p l e ({ frames := 4, cells := 0, slots := 0, locals := 88 }) s m args below meth c (MQ below (va_Qi post (GB (mw cI cZ o) (dC, dI) gx_cl [(cI, .int), (cZ, .boolean)] A) A) args s 0 0 A) 4 (dC, dI) gx_cl A (mw cI cZ o) S 37 [(0, .ref (o 0)), (1, .int v1), (2, .int v2)] [] := by
  refine gx_aload_n C dM_set_37 0 rfl rfl ?_
  refine gx_get C mo_this hi_M 3 (by decide) fl_M_7 rfl dM_set_38 ?_
  refine gx_iload_n C dM_set_41 1 rfl rfl ?_
  obtain ⟨hin, hs⟩ := hs
  refine gx_iald C ma_registers hin dM_set_42 ?_
  refine gx_top (fun y1 ey1 => ?_)
  replace hs := hs y1 ey1
  refine gx_istore_n (L' := [(3, .int y1), (0, .ref (o 0)), (1, .int v1), (2, .int v2)]) C dM_set_43 rfl (by decide) rfl ?_
  refine gx_aload_n C dM_set_44 1 rfl rfl ?_
  refine gx_get C mo_this hi_M 3 (by decide) fl_M_7 rfl dM_set_45 ?_
  refine gx_iload_n C dM_set_48 2 rfl rfl ?_
  refine gx_iload_n C dM_set_49 3 rfl rfl ?_
  obtain ⟨hin, hs⟩ := hs
  refine gx_iast C ma_registers hin dM_set_50 (fun S2 eS2 => ?_)
  replace hs := hs S2 eS2
  refine gx_aload_n C dM_set_51 1 rfl rfl ?_
  refine gx_iload_n C dM_set_52 0 rfl rfl ?_
  refine gx_iload_n C dM_set_53 3 rfl rfl ?_
  refine gx_calli (As := [.int y1, .int v2]) (rest := []) C (mt_M_replace l dC dI cI cZ o  _ _ _ _ hs) (gx_cwV C 2 ln_M_122 im_M_replace se_M_replace in_CountedObjectsModel cd_M_replace rfl rfl (by decide +kernel) ⟨Nat.le_of_ble_eq_true rfl, Nat.le_of_ble_eq_true rfl⟩) mo_this rfl (Nat.le_of_ble_eq_true rfl) dM_set_54 (fun S1 => mw_ad _ S1) rfl (fun r4 S3 hs => ?_)
  exact gx_iret C hr hlocks dM_set_57 hs
set_option maxHeartbeats 4000000 in
set_option maxRecDepth 100000 in
theorem mt_M_set (l : Launch) (dC : Nat → ClassId) (dI : Nat → Nat → Nat) (cI cZ : ClassId) (o : Nat → Nat) (v1 : Int32) (v2 : Int32) (S : GS) (post : Int32 → GS → Prop) (h : wp_M_set [v1, v2] S post) : MetI l yM_set (Cond.code yM_set cM_set 4 (some .int) :: wsA) ({ frames := 4, cells := 0, slots := 0, locals := 88 }) (dC, dI) gx_cl [(cI, .int), (cZ, .boolean)] (mw cI cZ o) [.ref (o 0), .int v1, .int v2] S post := by
  refine gx_metI (by decide) wsA_good (Nat.le_of_ble_eq_true rfl) ?_
  intro p e s m args below meth c A C hr hlocks
  refine h (vh_M_set o (GV p l e ({ frames := 4, cells := 0, slots := 0, locals := 88 }) s m args below meth c (MQ below (va_Qi post (GB (mw cI cZ o) (dC, dI) gx_cl [(cI, .int), (cZ, .boolean)] A) A) args s 0 0 A) 4 (dC, dI) gx_cl A (mw cI cZ o))) (fun h S xs hs => ?_)
  unfold sp_M_set at hs
  split at hs
  · exact wk_M_set_0 C hr hlocks _ _ _ hs
  · exact wk_M_set_37 C hr hlocks _ _ _ hs
  · exact hs.elim
/-- CountedObjectsModel.register(I)I: a step from head to head -/
def sp_M_register (post : Int32 → GS → Prop) (V : Nat → GS → List Int32 → Prop) (h : Nat) (S : GS) (xs : List Int32) : Prop := match h, xs with
  | 0, [v1] => wp_M_isRegister  [v1] S (fun r2 S1 => ((r2 = 0 → (∀ S3 : GS, S3 = gx_set 100 0 1 S1 → ((¬ (S3 100 0) = 0 → post 0 S3) ∧ ((S3 100 0) = 0 → (vp_in v1 8 ∧ post (S3 0 (v1).toNatClampNeg) S3))))) ∧ (¬ r2 = 0 → (∀ S4 : GS, S4 = gx_set 100 0 0 S1 → ((¬ (S4 100 0) = 0 → post 0 S4) ∧ ((S4 100 0) = 0 → (vp_in v1 8 ∧ post (S4 0 (v1).toNatClampNeg) S4)))))))
  | _, _ => False
def wp_M_register (xs : List Int32) (S : GS) (post : Int32 → GS → Prop) : Prop := ∀ V : Nat → GS → List Int32 → Prop, (∀ h S xs, sp_M_register post V h S xs → V h S xs) → V 0 S xs
def vh_M_register (o : Nat → Nat) (G : GS → Nat → List (Nat × Value) → List Value → Prop) (h : Nat) (S : GS) (xs : List Int32) : Prop := match h, xs with
  | 0, [v1] => G S 0 [(0, .ref (o 0)), (1, .int v1)] []
  | _, _ => True
set_option maxHeartbeats 4000000 in
set_option maxRecDepth 100000 in
theorem wk_M_register_0 {l : Launch} {dC : Nat → ClassId} {dI : Nat → Nat → Nat} {cI cZ : ClassId} {o : Nat → Nat}  {p : Program} {e : Env} {s : State} {m : MethodId} {args : Array Value} {below : List Frame} {meth : Method} {c : Code} {A : Nat → Prop} {post : Int32 → GS → Prop} (C : GC p s m args c cM_register 2 RM wsA (dC, dI) gx_cl [(cI, .int), (cZ, .boolean)] A) (hr : meth.sig.returnType = (some .int)) (hlocks : meth.locks = false) (S : GS) (v1 : Int32) (hs : sp_M_register post (vh_M_register o (GV p l e ({ frames := 1, cells := 0, slots := 0, locals := 20 }) s m args below meth c (MQ below (va_Qi post (GB (mw cI cZ o) (dC, dI) gx_cl [(cI, .int), (cZ, .boolean)] A) A) args s 0 0 A) 2 (dC, dI) gx_cl A (mw cI cZ o))) 0 S [v1]) : GV p l e ({ frames := 1, cells := 0, slots := 0, locals := 20 }) s m args below meth c (MQ below (va_Qi post (GB (mw cI cZ o) (dC, dI) gx_cl [(cI, .int), (cZ, .boolean)] A) A) args s 0 0 A) 2 (dC, dI) gx_cl A (mw cI cZ o) S 0 [(0, .ref (o 0)), (1, .int v1)] [] := by
  refine gx_aload_n C dM_register_0 0 rfl rfl ?_
  refine gx_iload_n C dM_register_1 1 rfl rfl ?_
  refine gx_calls (As := [.int v1]) (rest := [.ref (o 0)]) C (mt_M_isRegister l dC dI cI cZ o  _ _ _ hs) (gx_cwS C 1 ln_M_107 sm_M_isRegister in_CountedObjectsModel cd_M_isRegister rfl rfl (by decide +kernel) ⟨Nat.le_of_ble_eq_true rfl, Nat.le_of_ble_eq_true rfl⟩) rfl (Nat.le_of_ble_eq_true rfl) dM_register_2 (fun S1 => mw_ad _ S1) rfl (fun r2 S1 hs => ?_)
  obtain ⟨ht, hf⟩ := hs
  refine gx_if_eq C dM_register_5 12 rfl (fun hc => ?_) (fun hc => ?_)
  · have hs := ht hc
    refine gx_iconst (v := 1) C dM_register_12 (by decide) ?_
    refine gx_put C mo_this hi_M tyM tyM_ok nmM 0 (by decide) fl_M_58 rfl (by decide +kernel) (Nat.le_of_ble_eq_true rfl) (mp_thrown _ _) dM_register_13 (fun S3 eS3 => ?_)
    replace hs := hs S3 eS3
    refine gx_aload_n C dM_register_16 0 rfl rfl ?_
    refine gx_get C mo_this hi_M 0 (by decide) fl_M_58 rfl dM_register_17 ?_
    obtain ⟨ht, hf⟩ := hs
    refine gx_if_ne C dM_register_20 32 rfl (fun hc => ?_) (fun hc => ?_)
    · have hs := ht hc
      refine gx_iconst (v := 0) C dM_register_32 (by decide) ?_
      exact gx_iret C hr hlocks dM_register_33 hs
    · have hs := hf hc
      refine gx_aload_n C dM_register_23 0 rfl rfl ?_
      refine gx_get C mo_this hi_M 3 (by decide) fl_M_7 rfl dM_register_24 ?_
      refine gx_iload_n C dM_register_27 1 rfl rfl ?_
      obtain ⟨hin, hs⟩ := hs
      refine gx_iald C ma_registers hin dM_register_28 ?_
      refine gx_goto C dM_register_29 33 rfl ?_
      exact gx_iret C hr hlocks dM_register_33 hs
  · have hs := hf hc
    refine gx_iconst (v := 0) C dM_register_8 (by decide) ?_
    refine gx_goto C dM_register_9 13 rfl ?_
    refine gx_put C mo_this hi_M tyM tyM_ok nmM 0 (by decide) fl_M_58 rfl (by decide +kernel) (Nat.le_of_ble_eq_true rfl) (mp_thrown _ _) dM_register_13 (fun S4 eS4 => ?_)
    replace hs := hs S4 eS4
    refine gx_aload_n C dM_register_16 0 rfl rfl ?_
    refine gx_get C mo_this hi_M 0 (by decide) fl_M_58 rfl dM_register_17 ?_
    obtain ⟨ht, hf⟩ := hs
    refine gx_if_ne C dM_register_20 32 rfl (fun hc => ?_) (fun hc => ?_)
    · have hs := ht hc
      refine gx_iconst (v := 0) C dM_register_32 (by decide) ?_
      exact gx_iret C hr hlocks dM_register_33 hs
    · have hs := hf hc
      refine gx_aload_n C dM_register_23 0 rfl rfl ?_
      refine gx_get C mo_this hi_M 3 (by decide) fl_M_7 rfl dM_register_24 ?_
      refine gx_iload_n C dM_register_27 1 rfl rfl ?_
      obtain ⟨hin, hs⟩ := hs
      refine gx_iald C ma_registers hin dM_register_28 ?_
      refine gx_goto C dM_register_29 33 rfl ?_
      exact gx_iret C hr hlocks dM_register_33 hs
set_option maxHeartbeats 4000000 in
set_option maxRecDepth 100000 in
theorem mt_M_register (l : Launch) (dC : Nat → ClassId) (dI : Nat → Nat → Nat) (cI cZ : ClassId) (o : Nat → Nat) (v1 : Int32) (S : GS) (post : Int32 → GS → Prop) (h : wp_M_register [v1] S post) : MetI l yM_register (Cond.code yM_register cM_register 2 (some .int) :: wsA) ({ frames := 1, cells := 0, slots := 0, locals := 20 }) (dC, dI) gx_cl [(cI, .int), (cZ, .boolean)] (mw cI cZ o) [.ref (o 0), .int v1] S post := by
  refine gx_metI (by decide) wsA_good (Nat.le_of_ble_eq_true rfl) ?_
  intro p e s m args below meth c A C hr hlocks
  refine h (vh_M_register o (GV p l e ({ frames := 1, cells := 0, slots := 0, locals := 20 }) s m args below meth c (MQ below (va_Qi post (GB (mw cI cZ o) (dC, dI) gx_cl [(cI, .int), (cZ, .boolean)] A) A) args s 0 0 A) 2 (dC, dI) gx_cl A (mw cI cZ o))) (fun h S xs hs => ?_)
  unfold sp_M_register at hs
  split at hs
  · exact wk_M_register_0 C hr hlocks _ _ hs
  · exact hs.elim
/-- CountedObjectsModel.hasField(II)Z: a step from head to head -/
def sp_M_hasField (post : Int32 → GS → Prop) (V : Nat → GS → List Int32 → Prop) (h : Nat) (S : GS) (xs : List Int32) : Prop := match h, xs with
  | 0, [v1, v2] => ((v2 < 0 → post 0 S) ∧ (¬ v2 < 0 → (vp_in (v1 / 2) 41 ∧ (((S 3 (v1 / 2).toNatClampNeg) ≤ v2 → post 0 S) ∧ (¬ (S 3 (v1 / 2).toNatClampNeg) ≤ v2 → post 1 S)))))
  | _, _ => False
def wp_M_hasField (xs : List Int32) (S : GS) (post : Int32 → GS → Prop) : Prop := ∀ V : Nat → GS → List Int32 → Prop, (∀ h S xs, sp_M_hasField post V h S xs → V h S xs) → V 0 S xs
def vh_M_hasField (o : Nat → Nat) (G : GS → Nat → List (Nat × Value) → List Value → Prop) (h : Nat) (S : GS) (xs : List Int32) : Prop := match h, xs with
  | 0, [v1, v2] => G S 0 [(0, .ref (o 0)), (1, .int v1), (2, .int v2)] []
  | _, _ => True
set_option maxHeartbeats 4000000 in
set_option maxRecDepth 100000 in
theorem wk_M_hasField_0 {l : Launch} {dC : Nat → ClassId} {dI : Nat → Nat → Nat} {cI cZ : ClassId} {o : Nat → Nat}  {p : Program} {e : Env} {s : State} {m : MethodId} {args : Array Value} {below : List Frame} {meth : Method} {c : Code} {A : Nat → Prop} {post : Int32 → GS → Prop} (C : GC p s m args c cM_hasField 3 RM wsA (dC, dI) gx_cl [(cI, .int), (cZ, .boolean)] A) (hr : meth.sig.returnType = (some .boolean)) (hlocks : meth.locks = false) (S : GS) (v1 : Int32) (v2 : Int32) (hs : sp_M_hasField post (vh_M_hasField o (GV p l e ({ frames := 0, cells := 0, slots := 0, locals := 0 }) s m args below meth c (MQ below (va_Qi post (GB (mw cI cZ o) (dC, dI) gx_cl [(cI, .int), (cZ, .boolean)] A) A) args s 0 0 A) 3 (dC, dI) gx_cl A (mw cI cZ o))) 0 S [v1, v2]) : GV p l e ({ frames := 0, cells := 0, slots := 0, locals := 0 }) s m args below meth c (MQ below (va_Qi post (GB (mw cI cZ o) (dC, dI) gx_cl [(cI, .int), (cZ, .boolean)] A) A) args s 0 0 A) 3 (dC, dI) gx_cl A (mw cI cZ o) S 0 [(0, .ref (o 0)), (1, .int v1), (2, .int v2)] [] := by
  refine gx_iload_n C dM_hasField_0 2 rfl rfl ?_
  obtain ⟨ht, hf⟩ := hs
  refine gx_if_lt C dM_hasField_1 20 rfl (fun hc => ?_) (fun hc => ?_)
  · have hs := ht hc
    refine gx_iconst (v := 0) C dM_hasField_20 (by decide) ?_
    exact gx_zret C hr hlocks dM_hasField_21 hs rfl
  · have hs := hf hc
    refine gx_iload_n C dM_hasField_4 2 rfl rfl ?_
    refine gx_aload_n C dM_hasField_5 0 rfl rfl ?_
    refine gx_get C mo_this hi_M 6 (by decide) fl_M_20 rfl dM_hasField_6 ?_
    refine gx_iload_n C dM_hasField_9 1 rfl rfl ?_
    refine gx_iconst (v := 2) C dM_hasField_10 (by decide) ?_
    refine gx_idiv C dM_hasField_11 (by decide) ?_
    obtain ⟨hin, hs⟩ := hs
    refine gx_iald C ma_sizes hin dM_hasField_12 ?_
    obtain ⟨ht, hf⟩ := hs
    refine gx_icmp_ge C dM_hasField_13 20 rfl (fun hc => ?_) (fun hc => ?_)
    · have hs := ht hc
      refine gx_iconst (v := 0) C dM_hasField_20 (by decide) ?_
      exact gx_zret C hr hlocks dM_hasField_21 hs rfl
    · have hs := hf hc
      refine gx_iconst (v := 1) C dM_hasField_16 (by decide) ?_
      refine gx_goto C dM_hasField_17 21 rfl ?_
      exact gx_zret C hr hlocks dM_hasField_21 hs rfl
set_option maxHeartbeats 4000000 in
set_option maxRecDepth 100000 in
theorem mt_M_hasField (l : Launch) (dC : Nat → ClassId) (dI : Nat → Nat → Nat) (cI cZ : ClassId) (o : Nat → Nat) (v1 : Int32) (v2 : Int32) (S : GS) (post : Int32 → GS → Prop) (h : wp_M_hasField [v1, v2] S post) : MetI l yM_hasField (Cond.code yM_hasField cM_hasField 3 (some .boolean) :: wsA) ({ frames := 0, cells := 0, slots := 0, locals := 0 }) (dC, dI) gx_cl [(cI, .int), (cZ, .boolean)] (mw cI cZ o) [.ref (o 0), .int v1, .int v2] S post := by
  refine gx_metI (by decide) wsA_good (Nat.le_of_ble_eq_true rfl) ?_
  intro p e s m args below meth c A C hr hlocks
  refine h (vh_M_hasField o (GV p l e ({ frames := 0, cells := 0, slots := 0, locals := 0 }) s m args below meth c (MQ below (va_Qi post (GB (mw cI cZ o) (dC, dI) gx_cl [(cI, .int), (cZ, .boolean)] A) A) args s 0 0 A) 3 (dC, dI) gx_cl A (mw cI cZ o))) (fun h S xs hs => ?_)
  unfold sp_M_hasField at hs
  split at hs
  · exact wk_M_hasField_0 C hr hlocks _ _ _ hs
  · exact hs.elim
/-- CountedObjectsModel.fetch(II)I: a step from head to head -/
def sp_M_fetch (post : Int32 → GS → Prop) (V : Nat → GS → List Int32 → Prop) (h : Nat) (S : GS) (xs : List Int32) : Prop := match h, xs with
  | 0, [v1, v2] => wp_M_isObject  [v1] S (fun r2 S1 => ((¬ r2 = 0 → wp_M_hasField  [v1, v2] S1 (fun r4 S3 => ((¬ r4 = 0 → (∀ S5 : GS, S5 = gx_set 100 0 0 S3 → ((¬ (S5 100 0) = 0 → post 0 S5) ∧ ((S5 100 0) = 0 → (vp_in (v1 / 2) 41 ∧ (vp_in (((S5 2 (v1 / 2).toNatClampNeg) + 2) + v2) 400 ∧ post (S5 5 (((S5 2 (v1 / 2).toNatClampNeg) + 2) + v2).toNatClampNeg) S5)))))) ∧ (r4 = 0 → (∀ S6 : GS, S6 = gx_set 100 0 2 S3 → ((¬ (S6 100 0) = 0 → post 0 S6) ∧ ((S6 100 0) = 0 → (vp_in (v1 / 2) 41 ∧ (vp_in (((S6 2 (v1 / 2).toNatClampNeg) + 2) + v2) 400 ∧ post (S6 5 (((S6 2 (v1 / 2).toNatClampNeg) + 2) + v2).toNatClampNeg) S6))))))))) ∧ (r2 = 0 → (∀ S7 : GS, S7 = gx_set 100 0 1 S1 → ((¬ (S7 100 0) = 0 → post 0 S7) ∧ ((S7 100 0) = 0 → (vp_in (v1 / 2) 41 ∧ (vp_in (((S7 2 (v1 / 2).toNatClampNeg) + 2) + v2) 400 ∧ post (S7 5 (((S7 2 (v1 / 2).toNatClampNeg) + 2) + v2).toNatClampNeg) S7))))))))
  | _, _ => False
def wp_M_fetch (xs : List Int32) (S : GS) (post : Int32 → GS → Prop) : Prop := ∀ V : Nat → GS → List Int32 → Prop, (∀ h S xs, sp_M_fetch post V h S xs → V h S xs) → V 0 S xs
def vh_M_fetch (o : Nat → Nat) (G : GS → Nat → List (Nat × Value) → List Value → Prop) (h : Nat) (S : GS) (xs : List Int32) : Prop := match h, xs with
  | 0, [v1, v2] => G S 0 [(0, .ref (o 0)), (1, .int v1), (2, .int v2)] []
  | _, _ => True
set_option maxHeartbeats 4000000 in
set_option maxRecDepth 100000 in
theorem wk_M_fetch_0 {l : Launch} {dC : Nat → ClassId} {dI : Nat → Nat → Nat} {cI cZ : ClassId} {o : Nat → Nat}  {p : Program} {e : Env} {s : State} {m : MethodId} {args : Array Value} {below : List Frame} {meth : Method} {c : Code} {A : Nat → Prop} {post : Int32 → GS → Prop} (C : GC p s m args c cM_fetch 3 RM wsA (dC, dI) gx_cl [(cI, .int), (cZ, .boolean)] A) (hr : meth.sig.returnType = (some .int)) (hlocks : meth.locks = false) (S : GS) (v1 : Int32) (v2 : Int32) (hs : sp_M_fetch post (vh_M_fetch o (GV p l e ({ frames := 2, cells := 0, slots := 0, locals := 41 }) s m args below meth c (MQ below (va_Qi post (GB (mw cI cZ o) (dC, dI) gx_cl [(cI, .int), (cZ, .boolean)] A) A) args s 0 0 A) 3 (dC, dI) gx_cl A (mw cI cZ o))) 0 S [v1, v2]) : GV p l e ({ frames := 2, cells := 0, slots := 0, locals := 41 }) s m args below meth c (MQ below (va_Qi post (GB (mw cI cZ o) (dC, dI) gx_cl [(cI, .int), (cZ, .boolean)] A) A) args s 0 0 A) 3 (dC, dI) gx_cl A (mw cI cZ o) S 0 [(0, .ref (o 0)), (1, .int v1), (2, .int v2)] [] := by
  refine gx_aload_n C dM_fetch_0 0 rfl rfl ?_
  refine gx_aload_n C dM_fetch_1 0 rfl rfl ?_
  refine gx_iload_n C dM_fetch_2 1 rfl rfl ?_
  refine gx_calli (As := [.int v1]) (rest := [.ref (o 0)]) C (mt_M_isObject l dC dI cI cZ o  _ _ _ hs) (gx_cwV C 1 ln_M_65 im_M_isObject se_M_isObject in_CountedObjectsModel cd_M_isObject rfl rfl (by decide +kernel) ⟨Nat.le_of_ble_eq_true rfl, Nat.le_of_ble_eq_true rfl⟩) mo_this rfl (Nat.le_of_ble_eq_true rfl) dM_fetch_3 (fun S1 => mw_ad _ S1) rfl (fun r2 S1 hs => ?_)
  obtain ⟨ht, hf⟩ := hs
  refine gx_if_ne C dM_fetch_6 13 rfl (fun hc => ?_) (fun hc => ?_)
  · have hs := ht hc
    refine gx_aload_n C dM_fetch_13 0 rfl rfl ?_
    refine gx_iload_n C dM_fetch_14 1 rfl rfl ?_
    refine gx_iload_n C dM_fetch_15 2 rfl rfl ?_
    refine gx_calli (As := [.int v1, .int v2]) (rest := [.ref (o 0)]) C (mt_M_hasField l dC dI cI cZ o  _ _ _ _ hs) (gx_cwV C 2 ln_M_126 im_M_hasField se_M_hasField in_CountedObjectsModel cd_M_hasField rfl rfl (by decide +kernel) ⟨Nat.le_of_ble_eq_true rfl, Nat.le_of_ble_eq_true rfl⟩) mo_this rfl (Nat.le_of_ble_eq_true rfl) dM_fetch_16 (fun S1 => mw_ad _ S1) rfl (fun r4 S3 hs => ?_)
    obtain ⟨ht, hf⟩ := hs
    refine gx_if_ne C dM_fetch_19 26 rfl (fun hc => ?_) (fun hc => ?_)
    · have hs := ht hc
      refine gx_iconst (v := 0) C dM_fetch_26 (by decide) ?_
      refine gx_put C mo_this hi_M tyM tyM_ok nmM 0 (by decide) fl_M_58 rfl (by decide +kernel) (Nat.le_of_ble_eq_true rfl) (mp_thrown _ _) dM_fetch_27 (fun S5 eS5 => ?_)
      replace hs := hs S5 eS5
      refine gx_aload_n C dM_fetch_30 0 rfl rfl ?_
      refine gx_get C mo_this hi_M 0 (by decide) fl_M_58 rfl dM_fetch_31 ?_
      obtain ⟨ht, hf⟩ := hs
      refine gx_if_ne C dM_fetch_34 57 rfl (fun hc => ?_) (fun hc => ?_)
      · have hs := ht hc
        refine gx_iconst (v := 0) C dM_fetch_57 (by decide) ?_
        exact gx_iret C hr hlocks dM_fetch_58 hs
      · have hs := hf hc
        refine gx_aload_n C dM_fetch_37 0 rfl rfl ?_
        refine gx_get C mo_this hi_M 8 (by decide) fl_M_26 rfl dM_fetch_38 ?_
        refine gx_aload_n C dM_fetch_41 0 rfl rfl ?_
        refine gx_get C mo_this hi_M 5 (by decide) fl_M_17 rfl dM_fetch_42 ?_
        refine gx_iload_n C dM_fetch_45 1 rfl rfl ?_
        refine gx_iconst (v := 2) C dM_fetch_46 (by decide) ?_
        refine gx_idiv C dM_fetch_47 (by decide) ?_
        obtain ⟨hin, hs⟩ := hs
        refine gx_iald C ma_addresses hin dM_fetch_48 ?_
        refine gx_iconst (v := 2) C dM_fetch_49 (by decide) ?_
        refine gx_iadd C dM_fetch_50 ?_
        refine gx_iload_n C dM_fetch_51 2 rfl rfl ?_
        refine gx_iadd C dM_fetch_52 ?_
        obtain ⟨hin, hs⟩ := hs
        refine gx_iald C ma_word hin dM_fetch_53 ?_
        refine gx_goto C dM_fetch_54 58 rfl ?_
        exact gx_iret C hr hlocks dM_fetch_58 hs
    · have hs := hf hc
      refine gx_iconst (v := 2) C dM_fetch_22 (by decide) ?_
      refine gx_goto C dM_fetch_23 27 rfl ?_
      refine gx_put C mo_this hi_M tyM tyM_ok nmM 0 (by decide) fl_M_58 rfl (by decide +kernel) (Nat.le_of_ble_eq_true rfl) (mp_thrown _ _) dM_fetch_27 (fun S6 eS6 => ?_)
      replace hs := hs S6 eS6
      refine gx_aload_n C dM_fetch_30 0 rfl rfl ?_
      refine gx_get C mo_this hi_M 0 (by decide) fl_M_58 rfl dM_fetch_31 ?_
      obtain ⟨ht, hf⟩ := hs
      refine gx_if_ne C dM_fetch_34 57 rfl (fun hc => ?_) (fun hc => ?_)
      · have hs := ht hc
        refine gx_iconst (v := 0) C dM_fetch_57 (by decide) ?_
        exact gx_iret C hr hlocks dM_fetch_58 hs
      · have hs := hf hc
        refine gx_aload_n C dM_fetch_37 0 rfl rfl ?_
        refine gx_get C mo_this hi_M 8 (by decide) fl_M_26 rfl dM_fetch_38 ?_
        refine gx_aload_n C dM_fetch_41 0 rfl rfl ?_
        refine gx_get C mo_this hi_M 5 (by decide) fl_M_17 rfl dM_fetch_42 ?_
        refine gx_iload_n C dM_fetch_45 1 rfl rfl ?_
        refine gx_iconst (v := 2) C dM_fetch_46 (by decide) ?_
        refine gx_idiv C dM_fetch_47 (by decide) ?_
        obtain ⟨hin, hs⟩ := hs
        refine gx_iald C ma_addresses hin dM_fetch_48 ?_
        refine gx_iconst (v := 2) C dM_fetch_49 (by decide) ?_
        refine gx_iadd C dM_fetch_50 ?_
        refine gx_iload_n C dM_fetch_51 2 rfl rfl ?_
        refine gx_iadd C dM_fetch_52 ?_
        obtain ⟨hin, hs⟩ := hs
        refine gx_iald C ma_word hin dM_fetch_53 ?_
        refine gx_goto C dM_fetch_54 58 rfl ?_
        exact gx_iret C hr hlocks dM_fetch_58 hs
  · have hs := hf hc
    refine gx_iconst (v := 1) C dM_fetch_9 (by decide) ?_
    refine gx_goto C dM_fetch_10 27 rfl ?_
    refine gx_put C mo_this hi_M tyM tyM_ok nmM 0 (by decide) fl_M_58 rfl (by decide +kernel) (Nat.le_of_ble_eq_true rfl) (mp_thrown _ _) dM_fetch_27 (fun S7 eS7 => ?_)
    replace hs := hs S7 eS7
    refine gx_aload_n C dM_fetch_30 0 rfl rfl ?_
    refine gx_get C mo_this hi_M 0 (by decide) fl_M_58 rfl dM_fetch_31 ?_
    obtain ⟨ht, hf⟩ := hs
    refine gx_if_ne C dM_fetch_34 57 rfl (fun hc => ?_) (fun hc => ?_)
    · have hs := ht hc
      refine gx_iconst (v := 0) C dM_fetch_57 (by decide) ?_
      exact gx_iret C hr hlocks dM_fetch_58 hs
    · have hs := hf hc
      refine gx_aload_n C dM_fetch_37 0 rfl rfl ?_
      refine gx_get C mo_this hi_M 8 (by decide) fl_M_26 rfl dM_fetch_38 ?_
      refine gx_aload_n C dM_fetch_41 0 rfl rfl ?_
      refine gx_get C mo_this hi_M 5 (by decide) fl_M_17 rfl dM_fetch_42 ?_
      refine gx_iload_n C dM_fetch_45 1 rfl rfl ?_
      refine gx_iconst (v := 2) C dM_fetch_46 (by decide) ?_
      refine gx_idiv C dM_fetch_47 (by decide) ?_
      obtain ⟨hin, hs⟩ := hs
      refine gx_iald C ma_addresses hin dM_fetch_48 ?_
      refine gx_iconst (v := 2) C dM_fetch_49 (by decide) ?_
      refine gx_iadd C dM_fetch_50 ?_
      refine gx_iload_n C dM_fetch_51 2 rfl rfl ?_
      refine gx_iadd C dM_fetch_52 ?_
      obtain ⟨hin, hs⟩ := hs
      refine gx_iald C ma_word hin dM_fetch_53 ?_
      refine gx_goto C dM_fetch_54 58 rfl ?_
      exact gx_iret C hr hlocks dM_fetch_58 hs
set_option maxHeartbeats 4000000 in
set_option maxRecDepth 100000 in
theorem mt_M_fetch (l : Launch) (dC : Nat → ClassId) (dI : Nat → Nat → Nat) (cI cZ : ClassId) (o : Nat → Nat) (v1 : Int32) (v2 : Int32) (S : GS) (post : Int32 → GS → Prop) (h : wp_M_fetch [v1, v2] S post) : MetI l yM_fetch (Cond.code yM_fetch cM_fetch 3 (some .int) :: wsA) ({ frames := 2, cells := 0, slots := 0, locals := 41 }) (dC, dI) gx_cl [(cI, .int), (cZ, .boolean)] (mw cI cZ o) [.ref (o 0), .int v1, .int v2] S post := by
  refine gx_metI (by decide) wsA_good (Nat.le_of_ble_eq_true rfl) ?_
  intro p e s m args below meth c A C hr hlocks
  refine h (vh_M_fetch o (GV p l e ({ frames := 2, cells := 0, slots := 0, locals := 41 }) s m args below meth c (MQ below (va_Qi post (GB (mw cI cZ o) (dC, dI) gx_cl [(cI, .int), (cZ, .boolean)] A) A) args s 0 0 A) 3 (dC, dI) gx_cl A (mw cI cZ o))) (fun h S xs hs => ?_)
  unfold sp_M_fetch at hs
  split at hs
  · exact wk_M_fetch_0 C hr hlocks _ _ _ hs
  · exact hs.elim
/-- CountedObjectsModel.store(III)I: a step from head to head -/
def sp_M_store (post : Int32 → GS → Prop) (V : Nat → GS → List Int32 → Prop) (h : Nat) (S : GS) (xs : List Int32) : Prop := match h, xs with
  | 0, [v1, v2, v3] => wp_M_isObject  [v1] S (fun r2 S1 => ((¬ r2 = 0 → wp_M_hasField  [v1, v2] S1 (fun r4 S3 => ((¬ r4 = 0 → wp_M_isValue  [v3] S3 (fun r6 S5 => ((¬ r6 = 0 → (∀ S7 : GS, S7 = gx_set 100 0 0 S5 → (((S7 100 0) = 0 → V 51 S7 [v1, v2, v3]) ∧ (¬ (S7 100 0) = 0 → post 0 S7)))) ∧ (r6 = 0 → (∀ S8 : GS, S8 = gx_set 100 0 1 S5 → (((S8 100 0) = 0 → V 51 S8 [v1, v2, v3]) ∧ (¬ (S8 100 0) = 0 → post 0 S8))))))) ∧ (r4 = 0 → (∀ S9 : GS, S9 = gx_set 100 0 2 S3 → (((S9 100 0) = 0 → V 51 S9 [v1, v2, v3]) ∧ (¬ (S9 100 0) = 0 → post 0 S9))))))) ∧ (r2 = 0 → (∀ S10 : GS, S10 = gx_set 100 0 1 S1 → (((S10 100 0) = 0 → V 51 S10 [v1, v2, v3]) ∧ (¬ (S10 100 0) = 0 → post 0 S10))))))
  | 51, [v1, v2, v3] => (vp_in (v1 / 2) 41 ∧ ∀ y1 : Int32, y1 = ((S 2 (v1 / 2).toNatClampNeg) + 2) + v2 → (vp_in y1 400 ∧ ∀ y2 : Int32, y2 = S 5 (y1).toNatClampNeg → (vp_in y1 400 ∧ ∀ S3 : GS, S3 = gx_set 5 (y1).toNatClampNeg v3 S → wp_M_replace  [y2, v3] S3 (fun r5 S4 => post r5 S4))))
  | _, _ => False
def wp_M_store (xs : List Int32) (S : GS) (post : Int32 → GS → Prop) : Prop := ∀ V : Nat → GS → List Int32 → Prop, (∀ h S xs, sp_M_store post V h S xs → V h S xs) → V 0 S xs
def vh_M_store (o : Nat → Nat) (G : GS → Nat → List (Nat × Value) → List Value → Prop) (h : Nat) (S : GS) (xs : List Int32) : Prop := match h, xs with
  | 0, [v1, v2, v3] => G S 0 [(0, .ref (o 0)), (1, .int v1), (2, .int v2), (3, .int v3)] []
  | 51, [v1, v2, v3] => G S 51 [(0, .ref (o 0)), (1, .int v1), (2, .int v2), (3, .int v3)] []
  | _, _ => True
set_option maxHeartbeats 4000000 in
set_option maxRecDepth 100000 in
theorem wk_M_store_0 {l : Launch} {dC : Nat → ClassId} {dI : Nat → Nat → Nat} {cI cZ : ClassId} {o : Nat → Nat}  {p : Program} {e : Env} {s : State} {m : MethodId} {args : Array Value} {below : List Frame} {meth : Method} {c : Code} {A : Nat → Prop} {post : Int32 → GS → Prop} (C : GC p s m args c cM_store 6 RM wsA (dC, dI) gx_cl [(cI, .int), (cZ, .boolean)] A) (hr : meth.sig.returnType = (some .int)) (hlocks : meth.locks = false) (S : GS) (v1 : Int32) (v2 : Int32) (v3 : Int32) (hs : sp_M_store post (vh_M_store o (GV p l e ({ frames := 4, cells := 0, slots := 0, locals := 88 }) s m args below meth c (MQ below (va_Qi post (GB (mw cI cZ o) (dC, dI) gx_cl [(cI, .int), (cZ, .boolean)] A) A) args s 0 0 A) 6 (dC, dI) gx_cl A (mw cI cZ o))) 0 S [v1, v2, v3]) : GV p l e ({ frames := 4, cells := 0, slots := 0, locals := 88 }) s m args below meth c (MQ below (va_Qi post (GB (mw cI cZ o) (dC, dI) gx_cl [(cI, .int), (cZ, .boolean)] A) A) args s 0 0 A) 6 (dC, dI) gx_cl A (mw cI cZ o) S 0 [(0, .ref (o 0)), (1, .int v1), (2, .int v2), (3, .int v3)] [] := by
  refine gx_aload_n C dM_store_0 0 rfl rfl ?_
  refine gx_aload_n C dM_store_1 0 rfl rfl ?_
  refine gx_iload_n C dM_store_2 1 rfl rfl ?_
  refine gx_calli (As := [.int v1]) (rest := [.ref (o 0)]) C (mt_M_isObject l dC dI cI cZ o  _ _ _ hs) (gx_cwV C 1 ln_M_65 im_M_isObject se_M_isObject in_CountedObjectsModel cd_M_isObject rfl rfl (by decide +kernel) ⟨Nat.le_of_ble_eq_true rfl, Nat.le_of_ble_eq_true rfl⟩) mo_this rfl (Nat.le_of_ble_eq_true rfl) dM_store_3 (fun S1 => mw_ad _ S1) rfl (fun r2 S1 hs => ?_)
  obtain ⟨ht, hf⟩ := hs
  refine gx_if_ne C dM_store_6 13 rfl (fun hc => ?_) (fun hc => ?_)
  · have hs := ht hc
    refine gx_aload_n C dM_store_13 0 rfl rfl ?_
    refine gx_iload_n C dM_store_14 1 rfl rfl ?_
    refine gx_iload_n C dM_store_15 2 rfl rfl ?_
    refine gx_calli (As := [.int v1, .int v2]) (rest := [.ref (o 0)]) C (mt_M_hasField l dC dI cI cZ o  _ _ _ _ hs) (gx_cwV C 2 ln_M_126 im_M_hasField se_M_hasField in_CountedObjectsModel cd_M_hasField rfl rfl (by decide +kernel) ⟨Nat.le_of_ble_eq_true rfl, Nat.le_of_ble_eq_true rfl⟩) mo_this rfl (Nat.le_of_ble_eq_true rfl) dM_store_16 (fun S1 => mw_ad _ S1) rfl (fun r4 S3 hs => ?_)
    obtain ⟨ht, hf⟩ := hs
    refine gx_if_ne C dM_store_19 26 rfl (fun hc => ?_) (fun hc => ?_)
    · have hs := ht hc
      refine gx_aload_n C dM_store_26 0 rfl rfl ?_
      refine gx_iload_n C dM_store_27 3 rfl rfl ?_
      refine gx_calli (As := [.int v3]) (rest := [.ref (o 0)]) C (mt_M_isValue l dC dI cI cZ o  _ _ _ hs) (gx_cwV C 1 ln_M_110 im_M_isValue se_M_isValue in_CountedObjectsModel cd_M_isValue rfl rfl (by decide +kernel) ⟨Nat.le_of_ble_eq_true rfl, Nat.le_of_ble_eq_true rfl⟩) mo_this rfl (Nat.le_of_ble_eq_true rfl) dM_store_28 (fun S1 => mw_ad _ S1) rfl (fun r6 S5 hs => ?_)
      obtain ⟨ht, hf⟩ := hs
      refine gx_if_ne C dM_store_31 38 rfl (fun hc => ?_) (fun hc => ?_)
      · have hs := ht hc
        refine gx_iconst (v := 0) C dM_store_38 (by decide) ?_
        refine gx_put C mo_this hi_M tyM tyM_ok nmM 0 (by decide) fl_M_58 rfl (by decide +kernel) (Nat.le_of_ble_eq_true rfl) (mp_thrown _ _) dM_store_39 (fun S7 eS7 => ?_)
        replace hs := hs S7 eS7
        refine gx_aload_n C dM_store_42 0 rfl rfl ?_
        refine gx_get C mo_this hi_M 0 (by decide) fl_M_58 rfl dM_store_43 ?_
        obtain ⟨ht, hf⟩ := hs
        refine gx_if_eq C dM_store_46 51 rfl (fun hc => ?_) (fun hc => ?_)
        · have hs := ht hc
          exact hs
        · have hs := hf hc
          refine gx_iconst (v := 0) C dM_store_49 (by decide) ?_
          exact gx_iret C hr hlocks dM_store_50 hs
      · have hs := hf hc
        refine gx_iconst (v := 1) C dM_store_34 (by decide) ?_
        refine gx_goto C dM_store_35 39 rfl ?_
        refine gx_put C mo_this hi_M tyM tyM_ok nmM 0 (by decide) fl_M_58 rfl (by decide +kernel) (Nat.le_of_ble_eq_true rfl) (mp_thrown _ _) dM_store_39 (fun S8 eS8 => ?_)
        replace hs := hs S8 eS8
        refine gx_aload_n C dM_store_42 0 rfl rfl ?_
        refine gx_get C mo_this hi_M 0 (by decide) fl_M_58 rfl dM_store_43 ?_
        obtain ⟨ht, hf⟩ := hs
        refine gx_if_eq C dM_store_46 51 rfl (fun hc => ?_) (fun hc => ?_)
        · have hs := ht hc
          exact hs
        · have hs := hf hc
          refine gx_iconst (v := 0) C dM_store_49 (by decide) ?_
          exact gx_iret C hr hlocks dM_store_50 hs
    · have hs := hf hc
      refine gx_iconst (v := 2) C dM_store_22 (by decide) ?_
      refine gx_goto C dM_store_23 39 rfl ?_
      refine gx_put C mo_this hi_M tyM tyM_ok nmM 0 (by decide) fl_M_58 rfl (by decide +kernel) (Nat.le_of_ble_eq_true rfl) (mp_thrown _ _) dM_store_39 (fun S9 eS9 => ?_)
      replace hs := hs S9 eS9
      refine gx_aload_n C dM_store_42 0 rfl rfl ?_
      refine gx_get C mo_this hi_M 0 (by decide) fl_M_58 rfl dM_store_43 ?_
      obtain ⟨ht, hf⟩ := hs
      refine gx_if_eq C dM_store_46 51 rfl (fun hc => ?_) (fun hc => ?_)
      · have hs := ht hc
        exact hs
      · have hs := hf hc
        refine gx_iconst (v := 0) C dM_store_49 (by decide) ?_
        exact gx_iret C hr hlocks dM_store_50 hs
  · have hs := hf hc
    refine gx_iconst (v := 1) C dM_store_9 (by decide) ?_
    refine gx_goto C dM_store_10 39 rfl ?_
    refine gx_put C mo_this hi_M tyM tyM_ok nmM 0 (by decide) fl_M_58 rfl (by decide +kernel) (Nat.le_of_ble_eq_true rfl) (mp_thrown _ _) dM_store_39 (fun S10 eS10 => ?_)
    replace hs := hs S10 eS10
    refine gx_aload_n C dM_store_42 0 rfl rfl ?_
    refine gx_get C mo_this hi_M 0 (by decide) fl_M_58 rfl dM_store_43 ?_
    obtain ⟨ht, hf⟩ := hs
    refine gx_if_eq C dM_store_46 51 rfl (fun hc => ?_) (fun hc => ?_)
    · have hs := ht hc
      exact hs
    · have hs := hf hc
      refine gx_iconst (v := 0) C dM_store_49 (by decide) ?_
      exact gx_iret C hr hlocks dM_store_50 hs
set_option maxHeartbeats 4000000 in
set_option maxRecDepth 100000 in
theorem wk_M_store_51 {l : Launch} {dC : Nat → ClassId} {dI : Nat → Nat → Nat} {cI cZ : ClassId} {o : Nat → Nat}  {p : Program} {e : Env} {s : State} {m : MethodId} {args : Array Value} {below : List Frame} {meth : Method} {c : Code} {A : Nat → Prop} {post : Int32 → GS → Prop} (C : GC p s m args c cM_store 6 RM wsA (dC, dI) gx_cl [(cI, .int), (cZ, .boolean)] A) (hr : meth.sig.returnType = (some .int)) (hlocks : meth.locks = false) (S : GS) (v1 : Int32) (v2 : Int32) (v3 : Int32) (hs : sp_M_store post (vh_M_store o (GV p l e ({ frames := 4, cells := 0, slots := 0, locals := 88 }) s m args below meth c (MQ below (va_Qi post (GB (mw cI cZ o) (dC, dI) gx_cl [(cI, .int), (cZ, .boolean)] A) A) args s 0 0 A) 6 (dC, dI) gx_cl A (mw cI cZ o))) 51 S [v1, v2, v3]) : GV p l e ({ frames := 4, cells := 0, slots := 0, locals := 88 }) s m args below meth c (MQ below (va_Qi post (GB (mw cI cZ o) (dC, dI) gx_cl [(cI, .int), (cZ, .boolean)] A) A) args s 0 0 A) 6 (dC, dI) gx_cl A (mw cI cZ o) S 51 [(0, .ref (o 0)), (1, .int v1), (2, .int v2), (3, .int v3)] [] := by
  refine gx_aload_n C dM_store_51 0 rfl rfl ?_
  refine gx_get C mo_this hi_M 5 (by decide) fl_M_17 rfl dM_store_52 ?_
  refine gx_iload_n C dM_store_55 1 rfl rfl ?_
  refine gx_iconst (v := 2) C dM_store_56 (by decide) ?_
  refine gx_idiv C dM_store_57 (by decide) ?_
  obtain ⟨hin, hs⟩ := hs
  refine gx_iald C ma_addresses hin dM_store_58 ?_
  refine gx_iconst (v := 2) C dM_store_59 (by decide) ?_
  refine gx_iadd C dM_store_60 ?_
  refine gx_iload_n C dM_store_61 2 rfl rfl ?_
  refine gx_iadd C dM_store_62 ?_
  refine gx_top (fun y1 ey1 => ?_)
  replace hs := hs y1 ey1
  refine gx_istore (L' := [(4, .int y1), (0, .ref (o 0)), (1, .int v1), (2, .int v2), (3, .int v3)]) C dM_store_63 (by decide) rfl ?_
  refine gx_aload_n C dM_store_65 1 rfl rfl ?_
  refine gx_get C mo_this hi_M 8 (by decide) fl_M_26 rfl dM_store_66 ?_
  refine gx_iload C dM_store_69 0 rfl ?_
  obtain ⟨hin, hs⟩ := hs
  refine gx_iald C ma_word hin dM_store_71 ?_
  refine gx_top (fun y2 ey2 => ?_)
  replace hs := hs y2 ey2
  refine gx_istore (L' := [(5, .int y2), (4, .int y1), (0, .ref (o 0)), (1, .int v1), (2, .int v2), (3, .int v3)]) C dM_store_72 (by decide) rfl ?_
  refine gx_aload_n C dM_store_74 2 rfl rfl ?_
  refine gx_get C mo_this hi_M 8 (by decide) fl_M_26 rfl dM_store_75 ?_
  refine gx_iload C dM_store_78 1 rfl ?_
  refine gx_iload_n C dM_store_80 5 rfl rfl ?_
  obtain ⟨hin, hs⟩ := hs
  refine gx_iast C ma_word hin dM_store_81 (fun S3 eS3 => ?_)
  replace hs := hs S3 eS3
  refine gx_aload_n C dM_store_82 2 rfl rfl ?_
  refine gx_iload C dM_store_83 0 rfl ?_
  refine gx_iload_n C dM_store_85 5 rfl rfl ?_
  refine gx_calli (As := [.int y2, .int v3]) (rest := []) C (mt_M_replace l dC dI cI cZ o  _ _ _ _ hs) (gx_cwV C 2 ln_M_122 im_M_replace se_M_replace in_CountedObjectsModel cd_M_replace rfl rfl (by decide +kernel) ⟨Nat.le_of_ble_eq_true rfl, Nat.le_of_ble_eq_true rfl⟩) mo_this rfl (Nat.le_of_ble_eq_true rfl) dM_store_86 (fun S1 => mw_ad _ S1) rfl (fun r5 S4 hs => ?_)
  exact gx_iret C hr hlocks dM_store_89 hs
set_option maxHeartbeats 4000000 in
set_option maxRecDepth 100000 in
theorem mt_M_store (l : Launch) (dC : Nat → ClassId) (dI : Nat → Nat → Nat) (cI cZ : ClassId) (o : Nat → Nat) (v1 : Int32) (v2 : Int32) (v3 : Int32) (S : GS) (post : Int32 → GS → Prop) (h : wp_M_store [v1, v2, v3] S post) : MetI l yM_store (Cond.code yM_store cM_store 6 (some .int) :: wsA) ({ frames := 4, cells := 0, slots := 0, locals := 88 }) (dC, dI) gx_cl [(cI, .int), (cZ, .boolean)] (mw cI cZ o) [.ref (o 0), .int v1, .int v2, .int v3] S post := by
  refine gx_metI (by decide) wsA_good (Nat.le_of_ble_eq_true rfl) ?_
  intro p e s m args below meth c A C hr hlocks
  refine h (vh_M_store o (GV p l e ({ frames := 4, cells := 0, slots := 0, locals := 88 }) s m args below meth c (MQ below (va_Qi post (GB (mw cI cZ o) (dC, dI) gx_cl [(cI, .int), (cZ, .boolean)] A) A) args s 0 0 A) 6 (dC, dI) gx_cl A (mw cI cZ o))) (fun h S xs hs => ?_)
  unfold sp_M_store at hs
  split at hs
  · exact wk_M_store_0 C hr hlocks _ _ _ _ hs
  · exact wk_M_store_51 C hr hlocks _ _ _ _ hs
  · exact hs.elim
/-- CountedObjectsModel.type(I)I: a step from head to head -/
def sp_M_type (post : Int32 → GS → Prop) (V : Nat → GS → List Int32 → Prop) (h : Nat) (S : GS) (xs : List Int32) : Prop := match h, xs with
  | 0, [v1] => wp_M_isObject  [v1] S (fun r2 S1 => ((r2 = 0 → (∀ S3 : GS, S3 = gx_set 100 0 1 S1 → ((¬ (S3 100 0) = 0 → post 0 S3) ∧ ((S3 100 0) = 0 → (vp_in (v1 / 2) 41 ∧ (vp_in ((S3 2 (v1 / 2).toNatClampNeg) + 1) 400 ∧ post (S3 5 ((S3 2 (v1 / 2).toNatClampNeg) + 1).toNatClampNeg) S3)))))) ∧ (¬ r2 = 0 → (∀ S4 : GS, S4 = gx_set 100 0 0 S1 → ((¬ (S4 100 0) = 0 → post 0 S4) ∧ ((S4 100 0) = 0 → (vp_in (v1 / 2) 41 ∧ (vp_in ((S4 2 (v1 / 2).toNatClampNeg) + 1) 400 ∧ post (S4 5 ((S4 2 (v1 / 2).toNatClampNeg) + 1).toNatClampNeg) S4))))))))
  | _, _ => False
def wp_M_type (xs : List Int32) (S : GS) (post : Int32 → GS → Prop) : Prop := ∀ V : Nat → GS → List Int32 → Prop, (∀ h S xs, sp_M_type post V h S xs → V h S xs) → V 0 S xs
def vh_M_type (o : Nat → Nat) (G : GS → Nat → List (Nat × Value) → List Value → Prop) (h : Nat) (S : GS) (xs : List Int32) : Prop := match h, xs with
  | 0, [v1] => G S 0 [(0, .ref (o 0)), (1, .int v1)] []
  | _, _ => True
set_option maxHeartbeats 4000000 in
set_option maxRecDepth 100000 in
theorem wk_M_type_0 {l : Launch} {dC : Nat → ClassId} {dI : Nat → Nat → Nat} {cI cZ : ClassId} {o : Nat → Nat}  {p : Program} {e : Env} {s : State} {m : MethodId} {args : Array Value} {below : List Frame} {meth : Method} {c : Code} {A : Nat → Prop} {post : Int32 → GS → Prop} (C : GC p s m args c cM_type 2 RM wsA (dC, dI) gx_cl [(cI, .int), (cZ, .boolean)] A) (hr : meth.sig.returnType = (some .int)) (hlocks : meth.locks = false) (S : GS) (v1 : Int32) (hs : sp_M_type post (vh_M_type o (GV p l e ({ frames := 2, cells := 0, slots := 0, locals := 41 }) s m args below meth c (MQ below (va_Qi post (GB (mw cI cZ o) (dC, dI) gx_cl [(cI, .int), (cZ, .boolean)] A) A) args s 0 0 A) 2 (dC, dI) gx_cl A (mw cI cZ o))) 0 S [v1]) : GV p l e ({ frames := 2, cells := 0, slots := 0, locals := 41 }) s m args below meth c (MQ below (va_Qi post (GB (mw cI cZ o) (dC, dI) gx_cl [(cI, .int), (cZ, .boolean)] A) A) args s 0 0 A) 2 (dC, dI) gx_cl A (mw cI cZ o) S 0 [(0, .ref (o 0)), (1, .int v1)] [] := by
  refine gx_aload_n C dM_type_0 0 rfl rfl ?_
  refine gx_aload_n C dM_type_1 0 rfl rfl ?_
  refine gx_iload_n C dM_type_2 1 rfl rfl ?_
  refine gx_calli (As := [.int v1]) (rest := [.ref (o 0)]) C (mt_M_isObject l dC dI cI cZ o  _ _ _ hs) (gx_cwV C 1 ln_M_65 im_M_isObject se_M_isObject in_CountedObjectsModel cd_M_isObject rfl rfl (by decide +kernel) ⟨Nat.le_of_ble_eq_true rfl, Nat.le_of_ble_eq_true rfl⟩) mo_this rfl (Nat.le_of_ble_eq_true rfl) dM_type_3 (fun S1 => mw_ad _ S1) rfl (fun r2 S1 hs => ?_)
  obtain ⟨ht, hf⟩ := hs
  refine gx_if_eq C dM_type_6 13 rfl (fun hc => ?_) (fun hc => ?_)
  · have hs := ht hc
    refine gx_iconst (v := 1) C dM_type_13 (by decide) ?_
    refine gx_put C mo_this hi_M tyM tyM_ok nmM 0 (by decide) fl_M_58 rfl (by decide +kernel) (Nat.le_of_ble_eq_true rfl) (mp_thrown _ _) dM_type_14 (fun S3 eS3 => ?_)
    replace hs := hs S3 eS3
    refine gx_aload_n C dM_type_17 0 rfl rfl ?_
    refine gx_get C mo_this hi_M 0 (by decide) fl_M_58 rfl dM_type_18 ?_
    obtain ⟨ht, hf⟩ := hs
    refine gx_if_ne C dM_type_21 42 rfl (fun hc => ?_) (fun hc => ?_)
    · have hs := ht hc
      refine gx_iconst (v := 0) C dM_type_42 (by decide) ?_
      exact gx_iret C hr hlocks dM_type_43 hs
    · have hs := hf hc
      refine gx_aload_n C dM_type_24 0 rfl rfl ?_
      refine gx_get C mo_this hi_M 8 (by decide) fl_M_26 rfl dM_type_25 ?_
      refine gx_aload_n C dM_type_28 0 rfl rfl ?_
      refine gx_get C mo_this hi_M 5 (by decide) fl_M_17 rfl dM_type_29 ?_
      refine gx_iload_n C dM_type_32 1 rfl rfl ?_
      refine gx_iconst (v := 2) C dM_type_33 (by decide) ?_
      refine gx_idiv C dM_type_34 (by decide) ?_
      obtain ⟨hin, hs⟩ := hs
      refine gx_iald C ma_addresses hin dM_type_35 ?_
      refine gx_iconst (v := 1) C dM_type_36 (by decide) ?_
      refine gx_iadd C dM_type_37 ?_
      obtain ⟨hin, hs⟩ := hs
      refine gx_iald C ma_word hin dM_type_38 ?_
      refine gx_goto C dM_type_39 43 rfl ?_
      exact gx_iret C hr hlocks dM_type_43 hs
  · have hs := hf hc
    refine gx_iconst (v := 0) C dM_type_9 (by decide) ?_
    refine gx_goto C dM_type_10 14 rfl ?_
    refine gx_put C mo_this hi_M tyM tyM_ok nmM 0 (by decide) fl_M_58 rfl (by decide +kernel) (Nat.le_of_ble_eq_true rfl) (mp_thrown _ _) dM_type_14 (fun S4 eS4 => ?_)
    replace hs := hs S4 eS4
    refine gx_aload_n C dM_type_17 0 rfl rfl ?_
    refine gx_get C mo_this hi_M 0 (by decide) fl_M_58 rfl dM_type_18 ?_
    obtain ⟨ht, hf⟩ := hs
    refine gx_if_ne C dM_type_21 42 rfl (fun hc => ?_) (fun hc => ?_)
    · have hs := ht hc
      refine gx_iconst (v := 0) C dM_type_42 (by decide) ?_
      exact gx_iret C hr hlocks dM_type_43 hs
    · have hs := hf hc
      refine gx_aload_n C dM_type_24 0 rfl rfl ?_
      refine gx_get C mo_this hi_M 8 (by decide) fl_M_26 rfl dM_type_25 ?_
      refine gx_aload_n C dM_type_28 0 rfl rfl ?_
      refine gx_get C mo_this hi_M 5 (by decide) fl_M_17 rfl dM_type_29 ?_
      refine gx_iload_n C dM_type_32 1 rfl rfl ?_
      refine gx_iconst (v := 2) C dM_type_33 (by decide) ?_
      refine gx_idiv C dM_type_34 (by decide) ?_
      obtain ⟨hin, hs⟩ := hs
      refine gx_iald C ma_addresses hin dM_type_35 ?_
      refine gx_iconst (v := 1) C dM_type_36 (by decide) ?_
      refine gx_iadd C dM_type_37 ?_
      obtain ⟨hin, hs⟩ := hs
      refine gx_iald C ma_word hin dM_type_38 ?_
      refine gx_goto C dM_type_39 43 rfl ?_
      exact gx_iret C hr hlocks dM_type_43 hs
set_option maxHeartbeats 4000000 in
set_option maxRecDepth 100000 in
theorem mt_M_type (l : Launch) (dC : Nat → ClassId) (dI : Nat → Nat → Nat) (cI cZ : ClassId) (o : Nat → Nat) (v1 : Int32) (S : GS) (post : Int32 → GS → Prop) (h : wp_M_type [v1] S post) : MetI l yM_type (Cond.code yM_type cM_type 2 (some .int) :: wsA) ({ frames := 2, cells := 0, slots := 0, locals := 41 }) (dC, dI) gx_cl [(cI, .int), (cZ, .boolean)] (mw cI cZ o) [.ref (o 0), .int v1] S post := by
  refine gx_metI (by decide) wsA_good (Nat.le_of_ble_eq_true rfl) ?_
  intro p e s m args below meth c A C hr hlocks
  refine h (vh_M_type o (GV p l e ({ frames := 2, cells := 0, slots := 0, locals := 41 }) s m args below meth c (MQ below (va_Qi post (GB (mw cI cZ o) (dC, dI) gx_cl [(cI, .int), (cZ, .boolean)] A) A) args s 0 0 A) 2 (dC, dI) gx_cl A (mw cI cZ o))) (fun h S xs hs => ?_)
  unfold sp_M_type at hs
  split at hs
  · exact wk_M_type_0 C hr hlocks _ _ hs
  · exact hs.elim
/-- CountedObjectsModel.fields(I)I: a step from head to head -/
def sp_M_fields (post : Int32 → GS → Prop) (V : Nat → GS → List Int32 → Prop) (h : Nat) (S : GS) (xs : List Int32) : Prop := match h, xs with
  | 0, [v1] => wp_M_isObject  [v1] S (fun r2 S1 => ((r2 = 0 → (∀ S3 : GS, S3 = gx_set 100 0 1 S1 → ((¬ (S3 100 0) = 0 → post 0 S3) ∧ ((S3 100 0) = 0 → (vp_in (v1 / 2) 41 ∧ post (S3 3 (v1 / 2).toNatClampNeg) S3))))) ∧ (¬ r2 = 0 → (∀ S4 : GS, S4 = gx_set 100 0 0 S1 → ((¬ (S4 100 0) = 0 → post 0 S4) ∧ ((S4 100 0) = 0 → (vp_in (v1 / 2) 41 ∧ post (S4 3 (v1 / 2).toNatClampNeg) S4)))))))
  | _, _ => False
def wp_M_fields (xs : List Int32) (S : GS) (post : Int32 → GS → Prop) : Prop := ∀ V : Nat → GS → List Int32 → Prop, (∀ h S xs, sp_M_fields post V h S xs → V h S xs) → V 0 S xs
def vh_M_fields (o : Nat → Nat) (G : GS → Nat → List (Nat × Value) → List Value → Prop) (h : Nat) (S : GS) (xs : List Int32) : Prop := match h, xs with
  | 0, [v1] => G S 0 [(0, .ref (o 0)), (1, .int v1)] []
  | _, _ => True
set_option maxHeartbeats 4000000 in
set_option maxRecDepth 100000 in
theorem wk_M_fields_0 {l : Launch} {dC : Nat → ClassId} {dI : Nat → Nat → Nat} {cI cZ : ClassId} {o : Nat → Nat}  {p : Program} {e : Env} {s : State} {m : MethodId} {args : Array Value} {below : List Frame} {meth : Method} {c : Code} {A : Nat → Prop} {post : Int32 → GS → Prop} (C : GC p s m args c cM_fields 2 RM wsA (dC, dI) gx_cl [(cI, .int), (cZ, .boolean)] A) (hr : meth.sig.returnType = (some .int)) (hlocks : meth.locks = false) (S : GS) (v1 : Int32) (hs : sp_M_fields post (vh_M_fields o (GV p l e ({ frames := 2, cells := 0, slots := 0, locals := 41 }) s m args below meth c (MQ below (va_Qi post (GB (mw cI cZ o) (dC, dI) gx_cl [(cI, .int), (cZ, .boolean)] A) A) args s 0 0 A) 2 (dC, dI) gx_cl A (mw cI cZ o))) 0 S [v1]) : GV p l e ({ frames := 2, cells := 0, slots := 0, locals := 41 }) s m args below meth c (MQ below (va_Qi post (GB (mw cI cZ o) (dC, dI) gx_cl [(cI, .int), (cZ, .boolean)] A) A) args s 0 0 A) 2 (dC, dI) gx_cl A (mw cI cZ o) S 0 [(0, .ref (o 0)), (1, .int v1)] [] := by
  refine gx_aload_n C dM_fields_0 0 rfl rfl ?_
  refine gx_aload_n C dM_fields_1 0 rfl rfl ?_
  refine gx_iload_n C dM_fields_2 1 rfl rfl ?_
  refine gx_calli (As := [.int v1]) (rest := [.ref (o 0)]) C (mt_M_isObject l dC dI cI cZ o  _ _ _ hs) (gx_cwV C 1 ln_M_65 im_M_isObject se_M_isObject in_CountedObjectsModel cd_M_isObject rfl rfl (by decide +kernel) ⟨Nat.le_of_ble_eq_true rfl, Nat.le_of_ble_eq_true rfl⟩) mo_this rfl (Nat.le_of_ble_eq_true rfl) dM_fields_3 (fun S1 => mw_ad _ S1) rfl (fun r2 S1 hs => ?_)
  obtain ⟨ht, hf⟩ := hs
  refine gx_if_eq C dM_fields_6 13 rfl (fun hc => ?_) (fun hc => ?_)
  · have hs := ht hc
    refine gx_iconst (v := 1) C dM_fields_13 (by decide) ?_
    refine gx_put C mo_this hi_M tyM tyM_ok nmM 0 (by decide) fl_M_58 rfl (by decide +kernel) (Nat.le_of_ble_eq_true rfl) (mp_thrown _ _) dM_fields_14 (fun S3 eS3 => ?_)
    replace hs := hs S3 eS3
    refine gx_aload_n C dM_fields_17 0 rfl rfl ?_
    refine gx_get C mo_this hi_M 0 (by decide) fl_M_58 rfl dM_fields_18 ?_
    obtain ⟨ht, hf⟩ := hs
    refine gx_if_ne C dM_fields_21 35 rfl (fun hc => ?_) (fun hc => ?_)
    · have hs := ht hc
      refine gx_iconst (v := 0) C dM_fields_35 (by decide) ?_
      exact gx_iret C hr hlocks dM_fields_36 hs
    · have hs := hf hc
      refine gx_aload_n C dM_fields_24 0 rfl rfl ?_
      refine gx_get C mo_this hi_M 6 (by decide) fl_M_20 rfl dM_fields_25 ?_
      refine gx_iload_n C dM_fields_28 1 rfl rfl ?_
      refine gx_iconst (v := 2) C dM_fields_29 (by decide) ?_
      refine gx_idiv C dM_fields_30 (by decide) ?_
      obtain ⟨hin, hs⟩ := hs
      refine gx_iald C ma_sizes hin dM_fields_31 ?_
      refine gx_goto C dM_fields_32 36 rfl ?_
      exact gx_iret C hr hlocks dM_fields_36 hs
  · have hs := hf hc
    refine gx_iconst (v := 0) C dM_fields_9 (by decide) ?_
    refine gx_goto C dM_fields_10 14 rfl ?_
    refine gx_put C mo_this hi_M tyM tyM_ok nmM 0 (by decide) fl_M_58 rfl (by decide +kernel) (Nat.le_of_ble_eq_true rfl) (mp_thrown _ _) dM_fields_14 (fun S4 eS4 => ?_)
    replace hs := hs S4 eS4
    refine gx_aload_n C dM_fields_17 0 rfl rfl ?_
    refine gx_get C mo_this hi_M 0 (by decide) fl_M_58 rfl dM_fields_18 ?_
    obtain ⟨ht, hf⟩ := hs
    refine gx_if_ne C dM_fields_21 35 rfl (fun hc => ?_) (fun hc => ?_)
    · have hs := ht hc
      refine gx_iconst (v := 0) C dM_fields_35 (by decide) ?_
      exact gx_iret C hr hlocks dM_fields_36 hs
    · have hs := hf hc
      refine gx_aload_n C dM_fields_24 0 rfl rfl ?_
      refine gx_get C mo_this hi_M 6 (by decide) fl_M_20 rfl dM_fields_25 ?_
      refine gx_iload_n C dM_fields_28 1 rfl rfl ?_
      refine gx_iconst (v := 2) C dM_fields_29 (by decide) ?_
      refine gx_idiv C dM_fields_30 (by decide) ?_
      obtain ⟨hin, hs⟩ := hs
      refine gx_iald C ma_sizes hin dM_fields_31 ?_
      refine gx_goto C dM_fields_32 36 rfl ?_
      exact gx_iret C hr hlocks dM_fields_36 hs
set_option maxHeartbeats 4000000 in
set_option maxRecDepth 100000 in
theorem mt_M_fields (l : Launch) (dC : Nat → ClassId) (dI : Nat → Nat → Nat) (cI cZ : ClassId) (o : Nat → Nat) (v1 : Int32) (S : GS) (post : Int32 → GS → Prop) (h : wp_M_fields [v1] S post) : MetI l yM_fields (Cond.code yM_fields cM_fields 2 (some .int) :: wsA) ({ frames := 2, cells := 0, slots := 0, locals := 41 }) (dC, dI) gx_cl [(cI, .int), (cZ, .boolean)] (mw cI cZ o) [.ref (o 0), .int v1] S post := by
  refine gx_metI (by decide) wsA_good (Nat.le_of_ble_eq_true rfl) ?_
  intro p e s m args below meth c A C hr hlocks
  refine h (vh_M_fields o (GV p l e ({ frames := 2, cells := 0, slots := 0, locals := 41 }) s m args below meth c (MQ below (va_Qi post (GB (mw cI cZ o) (dC, dI) gx_cl [(cI, .int), (cZ, .boolean)] A) A) args s 0 0 A) 2 (dC, dI) gx_cl A (mw cI cZ o))) (fun h S xs hs => ?_)
  unfold sp_M_fields at hs
  split at hs
  · exact wk_M_fields_0 C hr hlocks _ _ hs
  · exact hs.elim
/-- CountedObjectsModel.become(II)V: a step from head to head -/
def sp_M_become (post : GS → Prop) (V : Nat → GS → List Int32 → Prop) (h : Nat) (S : GS) (xs : List Int32) : Prop := match h, xs with
  | 0, [v1, v2] => wp_M_isObject  [v1] S (fun r2 S1 => ((r2 = 0 → (∀ S3 : GS, S3 = gx_set 100 0 1 S1 → ((¬ (S3 100 0) = 0 → post S3) ∧ ((S3 100 0) = 0 → (vp_in (v1 / 2) 41 ∧ ∀ y4 : Int32, y4 = S3 2 (v1 / 2).toNatClampNeg → (vp_in (v1 / 2) 41 ∧ ∀ y5 : Int32, y5 = S3 3 (v1 / 2).toNatClampNeg → (vp_in (v2 / 2) 41 ∧ (vp_in (v1 / 2) 41 ∧ ∀ S6 : GS, S6 = gx_set 2 (v1 / 2).toNatClampNeg (S3 2 (v2 / 2).toNatClampNeg) S3 → (vp_in (v2 / 2) 41 ∧ (vp_in (v1 / 2) 41 ∧ ∀ S7 : GS, S7 = gx_set 3 (v1 / 2).toNatClampNeg (S6 3 (v2 / 2).toNatClampNeg) S6 → (vp_in (v2 / 2) 41 ∧ ∀ S8 : GS, S8 = gx_set 2 (v2 / 2).toNatClampNeg y4 S7 → (vp_in (v2 / 2) 41 ∧ ∀ S9 : GS, S9 = gx_set 3 (v2 / 2).toNatClampNeg y5 S8 → post S9)))))))))))) ∧ (¬ r2 = 0 → wp_M_isObject  [v2] S1 (fun r11 S10 => ((r11 = 0 → (∀ S12 : GS, S12 = gx_set 100 0 1 S10 → ((¬ (S12 100 0) = 0 → post S12) ∧ ((S12 100 0) = 0 → (vp_in (v1 / 2) 41 ∧ ∀ y13 : Int32, y13 = S12 2 (v1 / 2).toNatClampNeg → (vp_in (v1 / 2) 41 ∧ ∀ y14 : Int32, y14 = S12 3 (v1 / 2).toNatClampNeg → (vp_in (v2 / 2) 41 ∧ (vp_in (v1 / 2) 41 ∧ ∀ S15 : GS, S15 = gx_set 2 (v1 / 2).toNatClampNeg (S12 2 (v2 / 2).toNatClampNeg) S12 → (vp_in (v2 / 2) 41 ∧ (vp_in (v1 / 2) 41 ∧ ∀ S16 : GS, S16 = gx_set 3 (v1 / 2).toNatClampNeg (S15 3 (v2 / 2).toNatClampNeg) S15 → (vp_in (v2 / 2) 41 ∧ ∀ S17 : GS, S17 = gx_set 2 (v2 / 2).toNatClampNeg y13 S16 → (vp_in (v2 / 2) 41 ∧ ∀ S18 : GS, S18 = gx_set 3 (v2 / 2).toNatClampNeg y14 S17 → post S18)))))))))))) ∧ (¬ r11 = 0 → (∀ S19 : GS, S19 = gx_set 100 0 0 S10 → ((¬ (S19 100 0) = 0 → post S19) ∧ ((S19 100 0) = 0 → (vp_in (v1 / 2) 41 ∧ ∀ y20 : Int32, y20 = S19 2 (v1 / 2).toNatClampNeg → (vp_in (v1 / 2) 41 ∧ ∀ y21 : Int32, y21 = S19 3 (v1 / 2).toNatClampNeg → (vp_in (v2 / 2) 41 ∧ (vp_in (v1 / 2) 41 ∧ ∀ S22 : GS, S22 = gx_set 2 (v1 / 2).toNatClampNeg (S19 2 (v2 / 2).toNatClampNeg) S19 → (vp_in (v2 / 2) 41 ∧ (vp_in (v1 / 2) 41 ∧ ∀ S23 : GS, S23 = gx_set 3 (v1 / 2).toNatClampNeg (S22 3 (v2 / 2).toNatClampNeg) S22 → (vp_in (v2 / 2) 41 ∧ ∀ S24 : GS, S24 = gx_set 2 (v2 / 2).toNatClampNeg y20 S23 → (vp_in (v2 / 2) 41 ∧ ∀ S25 : GS, S25 = gx_set 3 (v2 / 2).toNatClampNeg y21 S24 → post S25)))))))))))))))))
  | _, _ => False
def wp_M_become (xs : List Int32) (S : GS) (post : GS → Prop) : Prop := ∀ V : Nat → GS → List Int32 → Prop, (∀ h S xs, sp_M_become post V h S xs → V h S xs) → V 0 S xs
def vh_M_become (o : Nat → Nat) (G : GS → Nat → List (Nat × Value) → List Value → Prop) (h : Nat) (S : GS) (xs : List Int32) : Prop := match h, xs with
  | 0, [v1, v2] => G S 0 [(0, .ref (o 0)), (1, .int v1), (2, .int v2)] []
  | _, _ => True
set_option maxHeartbeats 4000000 in
set_option maxRecDepth 100000 in
theorem wk_M_become_0 {l : Launch} {dC : Nat → ClassId} {dI : Nat → Nat → Nat} {cI cZ : ClassId} {o : Nat → Nat}  {p : Program} {e : Env} {s : State} {m : MethodId} {args : Array Value} {below : List Frame} {meth : Method} {c : Code} {A : Nat → Prop} {post : GS → Prop} (C : GC p s m args c cM_become 5 RM wsA (dC, dI) gx_cl [(cI, .int), (cZ, .boolean)] A) (hr : meth.sig.returnType = none) (hlocks : meth.locks = false) (S : GS) (v1 : Int32) (v2 : Int32) (hs : sp_M_become post (vh_M_become o (GV p l e ({ frames := 2, cells := 0, slots := 0, locals := 41 }) s m args below meth c (MQ below (va_Qv post (GB (mw cI cZ o) (dC, dI) gx_cl [(cI, .int), (cZ, .boolean)] A) A) args s 0 0 A) 5 (dC, dI) gx_cl A (mw cI cZ o))) 0 S [v1, v2]) : GV p l e ({ frames := 2, cells := 0, slots := 0, locals := 41 }) s m args below meth c (MQ below (va_Qv post (GB (mw cI cZ o) (dC, dI) gx_cl [(cI, .int), (cZ, .boolean)] A) A) args s 0 0 A) 5 (dC, dI) gx_cl A (mw cI cZ o) S 0 [(0, .ref (o 0)), (1, .int v1), (2, .int v2)] [] := by
  refine gx_aload_n C dM_become_0 0 rfl rfl ?_
  refine gx_aload_n C dM_become_1 0 rfl rfl ?_
  refine gx_iload_n C dM_become_2 1 rfl rfl ?_
  refine gx_calli (As := [.int v1]) (rest := [.ref (o 0)]) C (mt_M_isObject l dC dI cI cZ o  _ _ _ hs) (gx_cwV C 1 ln_M_65 im_M_isObject se_M_isObject in_CountedObjectsModel cd_M_isObject rfl rfl (by decide +kernel) ⟨Nat.le_of_ble_eq_true rfl, Nat.le_of_ble_eq_true rfl⟩) mo_this rfl (Nat.le_of_ble_eq_true rfl) dM_become_3 (fun S1 => mw_ad _ S1) rfl (fun r2 S1 hs => ?_)
  obtain ⟨ht, hf⟩ := hs
  refine gx_if_eq C dM_become_6 21 rfl (fun hc => ?_) (fun hc => ?_)
  · have hs := ht hc
    refine gx_iconst (v := 1) C dM_become_21 (by decide) ?_
    refine gx_put C mo_this hi_M tyM tyM_ok nmM 0 (by decide) fl_M_58 rfl (by decide +kernel) (Nat.le_of_ble_eq_true rfl) (mp_thrown _ _) dM_become_22 (fun S3 eS3 => ?_)
    replace hs := hs S3 eS3
    refine gx_aload_n C dM_become_25 0 rfl rfl ?_
    refine gx_get C mo_this hi_M 0 (by decide) fl_M_58 rfl dM_become_26 ?_
    obtain ⟨ht, hf⟩ := hs
    refine gx_if_ne C dM_become_29 102 rfl (fun hc => ?_) (fun hc => ?_)
    · have hs := ht hc
      exact gx_vret C hr hlocks dM_become_102 hs
    · have hs := hf hc
      refine gx_aload_n C dM_become_32 0 rfl rfl ?_
      refine gx_get C mo_this hi_M 5 (by decide) fl_M_17 rfl dM_become_33 ?_
      refine gx_iload_n C dM_become_36 1 rfl rfl ?_
      refine gx_iconst (v := 2) C dM_become_37 (by decide) ?_
      refine gx_idiv C dM_become_38 (by decide) ?_
      obtain ⟨hin, hs⟩ := hs
      refine gx_iald C ma_addresses hin dM_become_39 ?_
      refine gx_top (fun y4 ey4 => ?_)
      replace hs := hs y4 ey4
      refine gx_istore_n (L' := [(3, .int y4), (0, .ref (o 0)), (1, .int v1), (2, .int v2)]) C dM_become_40 rfl (by decide) rfl ?_
      refine gx_aload_n C dM_become_41 1 rfl rfl ?_
      refine gx_get C mo_this hi_M 6 (by decide) fl_M_20 rfl dM_become_42 ?_
      refine gx_iload_n C dM_become_45 2 rfl rfl ?_
      refine gx_iconst (v := 2) C dM_become_46 (by decide) ?_
      refine gx_idiv C dM_become_47 (by decide) ?_
      obtain ⟨hin, hs⟩ := hs
      refine gx_iald C ma_sizes hin dM_become_48 ?_
      refine gx_top (fun y5 ey5 => ?_)
      replace hs := hs y5 ey5
      refine gx_istore (L' := [(4, .int y5), (3, .int y4), (0, .ref (o 0)), (1, .int v1), (2, .int v2)]) C dM_become_49 (by decide) rfl ?_
      refine gx_aload_n C dM_become_51 2 rfl rfl ?_
      refine gx_get C mo_this hi_M 5 (by decide) fl_M_17 rfl dM_become_52 ?_
      refine gx_iload_n C dM_become_55 3 rfl rfl ?_
      refine gx_iconst (v := 2) C dM_become_56 (by decide) ?_
      refine gx_idiv C dM_become_57 (by decide) ?_
      refine gx_aload_n C dM_become_58 2 rfl rfl ?_
      refine gx_get C mo_this hi_M 5 (by decide) fl_M_17 rfl dM_become_59 ?_
      refine gx_iload_n C dM_become_62 4 rfl rfl ?_
      refine gx_iconst (v := 2) C dM_become_63 (by decide) ?_
      refine gx_idiv C dM_become_64 (by decide) ?_
      obtain ⟨hin, hs⟩ := hs
      refine gx_iald C ma_addresses hin dM_become_65 ?_
      obtain ⟨hin, hs⟩ := hs
      refine gx_iast C ma_addresses hin dM_become_66 (fun S6 eS6 => ?_)
      replace hs := hs S6 eS6
      refine gx_aload_n C dM_become_67 2 rfl rfl ?_
      refine gx_get C mo_this hi_M 6 (by decide) fl_M_20 rfl dM_become_68 ?_
      refine gx_iload_n C dM_become_71 3 rfl rfl ?_
      refine gx_iconst (v := 2) C dM_become_72 (by decide) ?_
      refine gx_idiv C dM_become_73 (by decide) ?_
      refine gx_aload_n C dM_become_74 2 rfl rfl ?_
      refine gx_get C mo_this hi_M 6 (by decide) fl_M_20 rfl dM_become_75 ?_
      refine gx_iload_n C dM_become_78 4 rfl rfl ?_
      refine gx_iconst (v := 2) C dM_become_79 (by decide) ?_
      refine gx_idiv C dM_become_80 (by decide) ?_
      obtain ⟨hin, hs⟩ := hs
      refine gx_iald C ma_sizes hin dM_become_81 ?_
      obtain ⟨hin, hs⟩ := hs
      refine gx_iast C ma_sizes hin dM_become_82 (fun S7 eS7 => ?_)
      replace hs := hs S7 eS7
      refine gx_aload_n C dM_become_83 2 rfl rfl ?_
      refine gx_get C mo_this hi_M 5 (by decide) fl_M_17 rfl dM_become_84 ?_
      refine gx_iload_n C dM_become_87 4 rfl rfl ?_
      refine gx_iconst (v := 2) C dM_become_88 (by decide) ?_
      refine gx_idiv C dM_become_89 (by decide) ?_
      refine gx_iload_n C dM_become_90 1 rfl rfl ?_
      obtain ⟨hin, hs⟩ := hs
      refine gx_iast C ma_addresses hin dM_become_91 (fun S8 eS8 => ?_)
      replace hs := hs S8 eS8
      refine gx_aload_n C dM_become_92 2 rfl rfl ?_
      refine gx_get C mo_this hi_M 6 (by decide) fl_M_20 rfl dM_become_93 ?_
      refine gx_iload_n C dM_become_96 4 rfl rfl ?_
      refine gx_iconst (v := 2) C dM_become_97 (by decide) ?_
      refine gx_idiv C dM_become_98 (by decide) ?_
      refine gx_iload C dM_become_99 0 rfl ?_
      obtain ⟨hin, hs⟩ := hs
      refine gx_iast C ma_sizes hin dM_become_101 (fun S9 eS9 => ?_)
      replace hs := hs S9 eS9
      exact gx_vret C hr hlocks dM_become_102 hs
  · have hs := hf hc
    refine gx_aload_n C dM_become_9 0 rfl rfl ?_
    refine gx_iload_n C dM_become_10 2 rfl rfl ?_
    refine gx_calli (As := [.int v2]) (rest := [.ref (o 0)]) C (mt_M_isObject l dC dI cI cZ o  _ _ _ hs) (gx_cwV C 1 ln_M_65 im_M_isObject se_M_isObject in_CountedObjectsModel cd_M_isObject rfl rfl (by decide +kernel) ⟨Nat.le_of_ble_eq_true rfl, Nat.le_of_ble_eq_true rfl⟩) mo_this rfl (Nat.le_of_ble_eq_true rfl) dM_become_11 (fun S1 => mw_ad _ S1) rfl (fun r11 S10 hs => ?_)
    obtain ⟨ht, hf⟩ := hs
    refine gx_if_eq C dM_become_14 21 rfl (fun hc => ?_) (fun hc => ?_)
    · have hs := ht hc
      refine gx_iconst (v := 1) C dM_become_21 (by decide) ?_
      refine gx_put C mo_this hi_M tyM tyM_ok nmM 0 (by decide) fl_M_58 rfl (by decide +kernel) (Nat.le_of_ble_eq_true rfl) (mp_thrown _ _) dM_become_22 (fun S12 eS12 => ?_)
      replace hs := hs S12 eS12
      refine gx_aload_n C dM_become_25 0 rfl rfl ?_
      refine gx_get C mo_this hi_M 0 (by decide) fl_M_58 rfl dM_become_26 ?_
      obtain ⟨ht, hf⟩ := hs
      refine gx_if_ne C dM_become_29 102 rfl (fun hc => ?_) (fun hc => ?_)
      · have hs := ht hc
        exact gx_vret C hr hlocks dM_become_102 hs
      · have hs := hf hc
        refine gx_aload_n C dM_become_32 0 rfl rfl ?_
        refine gx_get C mo_this hi_M 5 (by decide) fl_M_17 rfl dM_become_33 ?_
        refine gx_iload_n C dM_become_36 1 rfl rfl ?_
        refine gx_iconst (v := 2) C dM_become_37 (by decide) ?_
        refine gx_idiv C dM_become_38 (by decide) ?_
        obtain ⟨hin, hs⟩ := hs
        refine gx_iald C ma_addresses hin dM_become_39 ?_
        refine gx_top (fun y13 ey13 => ?_)
        replace hs := hs y13 ey13
        refine gx_istore_n (L' := [(3, .int y13), (0, .ref (o 0)), (1, .int v1), (2, .int v2)]) C dM_become_40 rfl (by decide) rfl ?_
        refine gx_aload_n C dM_become_41 1 rfl rfl ?_
        refine gx_get C mo_this hi_M 6 (by decide) fl_M_20 rfl dM_become_42 ?_
        refine gx_iload_n C dM_become_45 2 rfl rfl ?_
        refine gx_iconst (v := 2) C dM_become_46 (by decide) ?_
        refine gx_idiv C dM_become_47 (by decide) ?_
        obtain ⟨hin, hs⟩ := hs
        refine gx_iald C ma_sizes hin dM_become_48 ?_
        refine gx_top (fun y14 ey14 => ?_)
        replace hs := hs y14 ey14
        refine gx_istore (L' := [(4, .int y14), (3, .int y13), (0, .ref (o 0)), (1, .int v1), (2, .int v2)]) C dM_become_49 (by decide) rfl ?_
        refine gx_aload_n C dM_become_51 2 rfl rfl ?_
        refine gx_get C mo_this hi_M 5 (by decide) fl_M_17 rfl dM_become_52 ?_
        refine gx_iload_n C dM_become_55 3 rfl rfl ?_
        refine gx_iconst (v := 2) C dM_become_56 (by decide) ?_
        refine gx_idiv C dM_become_57 (by decide) ?_
        refine gx_aload_n C dM_become_58 2 rfl rfl ?_
        refine gx_get C mo_this hi_M 5 (by decide) fl_M_17 rfl dM_become_59 ?_
        refine gx_iload_n C dM_become_62 4 rfl rfl ?_
        refine gx_iconst (v := 2) C dM_become_63 (by decide) ?_
        refine gx_idiv C dM_become_64 (by decide) ?_
        obtain ⟨hin, hs⟩ := hs
        refine gx_iald C ma_addresses hin dM_become_65 ?_
        obtain ⟨hin, hs⟩ := hs
        refine gx_iast C ma_addresses hin dM_become_66 (fun S15 eS15 => ?_)
        replace hs := hs S15 eS15
        refine gx_aload_n C dM_become_67 2 rfl rfl ?_
        refine gx_get C mo_this hi_M 6 (by decide) fl_M_20 rfl dM_become_68 ?_
        refine gx_iload_n C dM_become_71 3 rfl rfl ?_
        refine gx_iconst (v := 2) C dM_become_72 (by decide) ?_
        refine gx_idiv C dM_become_73 (by decide) ?_
        refine gx_aload_n C dM_become_74 2 rfl rfl ?_
        refine gx_get C mo_this hi_M 6 (by decide) fl_M_20 rfl dM_become_75 ?_
        refine gx_iload_n C dM_become_78 4 rfl rfl ?_
        refine gx_iconst (v := 2) C dM_become_79 (by decide) ?_
        refine gx_idiv C dM_become_80 (by decide) ?_
        obtain ⟨hin, hs⟩ := hs
        refine gx_iald C ma_sizes hin dM_become_81 ?_
        obtain ⟨hin, hs⟩ := hs
        refine gx_iast C ma_sizes hin dM_become_82 (fun S16 eS16 => ?_)
        replace hs := hs S16 eS16
        refine gx_aload_n C dM_become_83 2 rfl rfl ?_
        refine gx_get C mo_this hi_M 5 (by decide) fl_M_17 rfl dM_become_84 ?_
        refine gx_iload_n C dM_become_87 4 rfl rfl ?_
        refine gx_iconst (v := 2) C dM_become_88 (by decide) ?_
        refine gx_idiv C dM_become_89 (by decide) ?_
        refine gx_iload_n C dM_become_90 1 rfl rfl ?_
        obtain ⟨hin, hs⟩ := hs
        refine gx_iast C ma_addresses hin dM_become_91 (fun S17 eS17 => ?_)
        replace hs := hs S17 eS17
        refine gx_aload_n C dM_become_92 2 rfl rfl ?_
        refine gx_get C mo_this hi_M 6 (by decide) fl_M_20 rfl dM_become_93 ?_
        refine gx_iload_n C dM_become_96 4 rfl rfl ?_
        refine gx_iconst (v := 2) C dM_become_97 (by decide) ?_
        refine gx_idiv C dM_become_98 (by decide) ?_
        refine gx_iload C dM_become_99 0 rfl ?_
        obtain ⟨hin, hs⟩ := hs
        refine gx_iast C ma_sizes hin dM_become_101 (fun S18 eS18 => ?_)
        replace hs := hs S18 eS18
        exact gx_vret C hr hlocks dM_become_102 hs
    · have hs := hf hc
      refine gx_iconst (v := 0) C dM_become_17 (by decide) ?_
      refine gx_goto C dM_become_18 22 rfl ?_
      refine gx_put C mo_this hi_M tyM tyM_ok nmM 0 (by decide) fl_M_58 rfl (by decide +kernel) (Nat.le_of_ble_eq_true rfl) (mp_thrown _ _) dM_become_22 (fun S19 eS19 => ?_)
      replace hs := hs S19 eS19
      refine gx_aload_n C dM_become_25 0 rfl rfl ?_
      refine gx_get C mo_this hi_M 0 (by decide) fl_M_58 rfl dM_become_26 ?_
      obtain ⟨ht, hf⟩ := hs
      refine gx_if_ne C dM_become_29 102 rfl (fun hc => ?_) (fun hc => ?_)
      · have hs := ht hc
        exact gx_vret C hr hlocks dM_become_102 hs
      · have hs := hf hc
        refine gx_aload_n C dM_become_32 0 rfl rfl ?_
        refine gx_get C mo_this hi_M 5 (by decide) fl_M_17 rfl dM_become_33 ?_
        refine gx_iload_n C dM_become_36 1 rfl rfl ?_
        refine gx_iconst (v := 2) C dM_become_37 (by decide) ?_
        refine gx_idiv C dM_become_38 (by decide) ?_
        obtain ⟨hin, hs⟩ := hs
        refine gx_iald C ma_addresses hin dM_become_39 ?_
        refine gx_top (fun y20 ey20 => ?_)
        replace hs := hs y20 ey20
        refine gx_istore_n (L' := [(3, .int y20), (0, .ref (o 0)), (1, .int v1), (2, .int v2)]) C dM_become_40 rfl (by decide) rfl ?_
        refine gx_aload_n C dM_become_41 1 rfl rfl ?_
        refine gx_get C mo_this hi_M 6 (by decide) fl_M_20 rfl dM_become_42 ?_
        refine gx_iload_n C dM_become_45 2 rfl rfl ?_
        refine gx_iconst (v := 2) C dM_become_46 (by decide) ?_
        refine gx_idiv C dM_become_47 (by decide) ?_
        obtain ⟨hin, hs⟩ := hs
        refine gx_iald C ma_sizes hin dM_become_48 ?_
        refine gx_top (fun y21 ey21 => ?_)
        replace hs := hs y21 ey21
        refine gx_istore (L' := [(4, .int y21), (3, .int y20), (0, .ref (o 0)), (1, .int v1), (2, .int v2)]) C dM_become_49 (by decide) rfl ?_
        refine gx_aload_n C dM_become_51 2 rfl rfl ?_
        refine gx_get C mo_this hi_M 5 (by decide) fl_M_17 rfl dM_become_52 ?_
        refine gx_iload_n C dM_become_55 3 rfl rfl ?_
        refine gx_iconst (v := 2) C dM_become_56 (by decide) ?_
        refine gx_idiv C dM_become_57 (by decide) ?_
        refine gx_aload_n C dM_become_58 2 rfl rfl ?_
        refine gx_get C mo_this hi_M 5 (by decide) fl_M_17 rfl dM_become_59 ?_
        refine gx_iload_n C dM_become_62 4 rfl rfl ?_
        refine gx_iconst (v := 2) C dM_become_63 (by decide) ?_
        refine gx_idiv C dM_become_64 (by decide) ?_
        obtain ⟨hin, hs⟩ := hs
        refine gx_iald C ma_addresses hin dM_become_65 ?_
        obtain ⟨hin, hs⟩ := hs
        refine gx_iast C ma_addresses hin dM_become_66 (fun S22 eS22 => ?_)
        replace hs := hs S22 eS22
        refine gx_aload_n C dM_become_67 2 rfl rfl ?_
        refine gx_get C mo_this hi_M 6 (by decide) fl_M_20 rfl dM_become_68 ?_
        refine gx_iload_n C dM_become_71 3 rfl rfl ?_
        refine gx_iconst (v := 2) C dM_become_72 (by decide) ?_
        refine gx_idiv C dM_become_73 (by decide) ?_
        refine gx_aload_n C dM_become_74 2 rfl rfl ?_
        refine gx_get C mo_this hi_M 6 (by decide) fl_M_20 rfl dM_become_75 ?_
        refine gx_iload_n C dM_become_78 4 rfl rfl ?_
        refine gx_iconst (v := 2) C dM_become_79 (by decide) ?_
        refine gx_idiv C dM_become_80 (by decide) ?_
        obtain ⟨hin, hs⟩ := hs
        refine gx_iald C ma_sizes hin dM_become_81 ?_
        obtain ⟨hin, hs⟩ := hs
        refine gx_iast C ma_sizes hin dM_become_82 (fun S23 eS23 => ?_)
        replace hs := hs S23 eS23
        refine gx_aload_n C dM_become_83 2 rfl rfl ?_
        refine gx_get C mo_this hi_M 5 (by decide) fl_M_17 rfl dM_become_84 ?_
        refine gx_iload_n C dM_become_87 4 rfl rfl ?_
        refine gx_iconst (v := 2) C dM_become_88 (by decide) ?_
        refine gx_idiv C dM_become_89 (by decide) ?_
        refine gx_iload_n C dM_become_90 1 rfl rfl ?_
        obtain ⟨hin, hs⟩ := hs
        refine gx_iast C ma_addresses hin dM_become_91 (fun S24 eS24 => ?_)
        replace hs := hs S24 eS24
        refine gx_aload_n C dM_become_92 2 rfl rfl ?_
        refine gx_get C mo_this hi_M 6 (by decide) fl_M_20 rfl dM_become_93 ?_
        refine gx_iload_n C dM_become_96 4 rfl rfl ?_
        refine gx_iconst (v := 2) C dM_become_97 (by decide) ?_
        refine gx_idiv C dM_become_98 (by decide) ?_
        refine gx_iload C dM_become_99 0 rfl ?_
        obtain ⟨hin, hs⟩ := hs
        refine gx_iast C ma_sizes hin dM_become_101 (fun S25 eS25 => ?_)
        replace hs := hs S25 eS25
        exact gx_vret C hr hlocks dM_become_102 hs
set_option maxHeartbeats 4000000 in
set_option maxRecDepth 100000 in
theorem mt_M_become (l : Launch) (dC : Nat → ClassId) (dI : Nat → Nat → Nat) (cI cZ : ClassId) (o : Nat → Nat) (v1 : Int32) (v2 : Int32) (S : GS) (post : GS → Prop) (h : wp_M_become [v1, v2] S post) : MetV l yM_become (Cond.code yM_become cM_become 5 none :: wsA) ({ frames := 2, cells := 0, slots := 0, locals := 41 }) (dC, dI) gx_cl [(cI, .int), (cZ, .boolean)] (mw cI cZ o) [.ref (o 0), .int v1, .int v2] S post := by
  refine gx_metV (by decide) wsA_good (Nat.le_of_ble_eq_true rfl) ?_
  intro p e s m args below meth c A C hr hlocks
  refine h (vh_M_become o (GV p l e ({ frames := 2, cells := 0, slots := 0, locals := 41 }) s m args below meth c (MQ below (va_Qv post (GB (mw cI cZ o) (dC, dI) gx_cl [(cI, .int), (cZ, .boolean)] A) A) args s 0 0 A) 5 (dC, dI) gx_cl A (mw cI cZ o))) (fun h S xs hs => ?_)
  unfold sp_M_become at hs
  split at hs
  · exact wk_M_become_0 C hr hlocks _ _ _ hs
  · exact hs.elim
/-- CountedObjectsModel.collect()I: a step from head to head -/
def sp_M_collect (post : Int32 → GS → Prop) (V : Nat → GS → List Int32 → Prop) (h : Nat) (S : GS) (xs : List Int32) : Prop := match h, xs with
  | 0, [] => (∀ S1 : GS, S1 = gx_set 100 0 0 S → wp_M_gather  [0] S1 (fun r3 S2 => post r3 S2))
  | _, _ => False
def wp_M_collect (xs : List Int32) (S : GS) (post : Int32 → GS → Prop) : Prop := ∀ V : Nat → GS → List Int32 → Prop, (∀ h S xs, sp_M_collect post V h S xs → V h S xs) → V 0 S xs
def vh_M_collect (o : Nat → Nat) (G : GS → Nat → List (Nat × Value) → List Value → Prop) (h : Nat) (S : GS) (xs : List Int32) : Prop := match h, xs with
  | 0, [] => G S 0 [(0, .ref (o 0))] []
  | _, _ => True
set_option maxHeartbeats 4000000 in
set_option maxRecDepth 100000 in
theorem wk_M_collect_0 {l : Launch} {dC : Nat → ClassId} {dI : Nat → Nat → Nat} {cI cZ : ClassId} {o : Nat → Nat}  {p : Program} {e : Env} {s : State} {m : MethodId} {args : Array Value} {below : List Frame} {meth : Method} {c : Code} {A : Nat → Prop} {post : Int32 → GS → Prop} (C : GC p s m args c cM_collect 1 RM wsA (dC, dI) gx_cl [(cI, .int), (cZ, .boolean)] A) (hr : meth.sig.returnType = (some .int)) (hlocks : meth.locks = false) (S : GS) (hs : sp_M_collect post (vh_M_collect o (GV p l e ({ frames := 4, cells := 0, slots := 0, locals := 91 }) s m args below meth c (MQ below (va_Qi post (GB (mw cI cZ o) (dC, dI) gx_cl [(cI, .int), (cZ, .boolean)] A) A) args s 0 0 A) 1 (dC, dI) gx_cl A (mw cI cZ o))) 0 S []) : GV p l e ({ frames := 4, cells := 0, slots := 0, locals := 91 }) s m args below meth c (MQ below (va_Qi post (GB (mw cI cZ o) (dC, dI) gx_cl [(cI, .int), (cZ, .boolean)] A) A) args s 0 0 A) 1 (dC, dI) gx_cl A (mw cI cZ o) S 0 [(0, .ref (o 0))] [] := by
  refine gx_aload_n C dM_collect_0 0 rfl rfl ?_
  refine gx_iconst (v := 0) C dM_collect_1 (by decide) ?_
  refine gx_put C mo_this hi_M tyM tyM_ok nmM 0 (by decide) fl_M_58 rfl (by decide +kernel) (Nat.le_of_ble_eq_true rfl) (mp_thrown _ _) dM_collect_2 (fun S1 eS1 => ?_)
  replace hs := hs S1 eS1
  refine gx_aload_n C dM_collect_5 0 rfl rfl ?_
  refine gx_iconst (v := 0) C dM_collect_6 (by decide) ?_
  refine gx_calli (As := [.int 0]) (rest := []) C (mt_M_gather l dC dI cI cZ o  _ _ _ hs) (gx_cwV C 1 ln_M_116 im_M_gather se_M_gather in_CountedObjectsModel cd_M_gather rfl rfl (by decide +kernel) ⟨Nat.le_of_ble_eq_true rfl, Nat.le_of_ble_eq_true rfl⟩) mo_this rfl (Nat.le_of_ble_eq_true rfl) dM_collect_7 (fun S1 => mw_ad _ S1) rfl (fun r3 S2 hs => ?_)
  exact gx_iret C hr hlocks dM_collect_10 hs
set_option maxHeartbeats 4000000 in
set_option maxRecDepth 100000 in
theorem mt_M_collect (l : Launch) (dC : Nat → ClassId) (dI : Nat → Nat → Nat) (cI cZ : ClassId) (o : Nat → Nat) (S : GS) (post : Int32 → GS → Prop) (h : wp_M_collect [] S post) : MetI l yM_collect (Cond.code yM_collect cM_collect 1 (some .int) :: wsA) ({ frames := 4, cells := 0, slots := 0, locals := 91 }) (dC, dI) gx_cl [(cI, .int), (cZ, .boolean)] (mw cI cZ o) [.ref (o 0)] S post := by
  refine gx_metI (by decide) wsA_good (Nat.le_of_ble_eq_true rfl) ?_
  intro p e s m args below meth c A C hr hlocks
  refine h (vh_M_collect o (GV p l e ({ frames := 4, cells := 0, slots := 0, locals := 91 }) s m args below meth c (MQ below (va_Qi post (GB (mw cI cZ o) (dC, dI) gx_cl [(cI, .int), (cZ, .boolean)] A) A) args s 0 0 A) 1 (dC, dI) gx_cl A (mw cI cZ o))) (fun h S xs hs => ?_)
  unfold sp_M_collect at hs
  split at hs
  · exact wk_M_collect_0 C hr hlocks _ hs
  · exact hs.elim
/-- CountedObjectsModel.compact()I: a step from head to head -/
def sp_M_compact (post : Int32 → GS → Prop) (V : Nat → GS → List Int32 → Prop) (h : Nat) (S : GS) (xs : List Int32) : Prop := match h, xs with
  | 0, [] => (∀ S1 : GS, S1 = gx_set 100 0 0 S → wp_M_pack  [] S1 (fun r3 S2 => post r3 S2))
  | _, _ => False
def wp_M_compact (xs : List Int32) (S : GS) (post : Int32 → GS → Prop) : Prop := ∀ V : Nat → GS → List Int32 → Prop, (∀ h S xs, sp_M_compact post V h S xs → V h S xs) → V 0 S xs
def vh_M_compact (o : Nat → Nat) (G : GS → Nat → List (Nat × Value) → List Value → Prop) (h : Nat) (S : GS) (xs : List Int32) : Prop := match h, xs with
  | 0, [] => G S 0 [(0, .ref (o 0))] []
  | _, _ => True
set_option maxHeartbeats 4000000 in
set_option maxRecDepth 100000 in
theorem wk_M_compact_0 {l : Launch} {dC : Nat → ClassId} {dI : Nat → Nat → Nat} {cI cZ : ClassId} {o : Nat → Nat}  {p : Program} {e : Env} {s : State} {m : MethodId} {args : Array Value} {below : List Frame} {meth : Method} {c : Code} {A : Nat → Prop} {post : Int32 → GS → Prop} (C : GC p s m args c cM_compact 1 RM wsA (dC, dI) gx_cl [(cI, .int), (cZ, .boolean)] A) (hr : meth.sig.returnType = (some .int)) (hlocks : meth.locks = false) (S : GS) (hs : sp_M_compact post (vh_M_compact o (GV p l e ({ frames := 2, cells := 0, slots := 0, locals := 49 }) s m args below meth c (MQ below (va_Qi post (GB (mw cI cZ o) (dC, dI) gx_cl [(cI, .int), (cZ, .boolean)] A) A) args s 0 0 A) 1 (dC, dI) gx_cl A (mw cI cZ o))) 0 S []) : GV p l e ({ frames := 2, cells := 0, slots := 0, locals := 49 }) s m args below meth c (MQ below (va_Qi post (GB (mw cI cZ o) (dC, dI) gx_cl [(cI, .int), (cZ, .boolean)] A) A) args s 0 0 A) 1 (dC, dI) gx_cl A (mw cI cZ o) S 0 [(0, .ref (o 0))] [] := by
  refine gx_aload_n C dM_compact_0 0 rfl rfl ?_
  refine gx_iconst (v := 0) C dM_compact_1 (by decide) ?_
  refine gx_put C mo_this hi_M tyM tyM_ok nmM 0 (by decide) fl_M_58 rfl (by decide +kernel) (Nat.le_of_ble_eq_true rfl) (mp_thrown _ _) dM_compact_2 (fun S1 eS1 => ?_)
  replace hs := hs S1 eS1
  refine gx_aload_n C dM_compact_5 0 rfl rfl ?_
  refine gx_calli (As := []) (rest := []) C (mt_M_pack l dC dI cI cZ o  _ _ hs) (gx_cwV C 0 ln_M_82 im_M_pack se_M_pack in_CountedObjectsModel cd_M_pack rfl rfl (by decide +kernel) ⟨Nat.le_of_ble_eq_true rfl, Nat.le_of_ble_eq_true rfl⟩) mo_this rfl (Nat.le_of_ble_eq_true rfl) dM_compact_6 (fun S1 => mw_ad _ S1) rfl (fun r3 S2 hs => ?_)
  exact gx_iret C hr hlocks dM_compact_9 hs
set_option maxHeartbeats 4000000 in
set_option maxRecDepth 100000 in
theorem mt_M_compact (l : Launch) (dC : Nat → ClassId) (dI : Nat → Nat → Nat) (cI cZ : ClassId) (o : Nat → Nat) (S : GS) (post : Int32 → GS → Prop) (h : wp_M_compact [] S post) : MetI l yM_compact (Cond.code yM_compact cM_compact 1 (some .int) :: wsA) ({ frames := 2, cells := 0, slots := 0, locals := 49 }) (dC, dI) gx_cl [(cI, .int), (cZ, .boolean)] (mw cI cZ o) [.ref (o 0)] S post := by
  refine gx_metI (by decide) wsA_good (Nat.le_of_ble_eq_true rfl) ?_
  intro p e s m args below meth c A C hr hlocks
  refine h (vh_M_compact o (GV p l e ({ frames := 2, cells := 0, slots := 0, locals := 49 }) s m args below meth c (MQ below (va_Qi post (GB (mw cI cZ o) (dC, dI) gx_cl [(cI, .int), (cZ, .boolean)] A) A) args s 0 0 A) 1 (dC, dI) gx_cl A (mw cI cZ o))) (fun h S xs hs => ?_)
  unfold sp_M_compact at hs
  split at hs
  · exact wk_M_compact_0 C hr hlocks _ hs
  · exact hs.elim
/-- CountedObjectsModel.exists(I)Z: a step from head to head -/
def sp_M_exists (post : Int32 → GS → Prop) (V : Nat → GS → List Int32 → Prop) (h : Nat) (S : GS) (xs : List Int32) : Prop := match h, xs with
  | 0, [v1] => (∀ S1 : GS, S1 = gx_set 100 0 0 S → wp_M_isObject  [v1] S1 (fun r3 S2 => (narrow .boolean (.int r3) = .int r3 ∧ post r3 S2)))
  | _, _ => False
def wp_M_exists (xs : List Int32) (S : GS) (post : Int32 → GS → Prop) : Prop := ∀ V : Nat → GS → List Int32 → Prop, (∀ h S xs, sp_M_exists post V h S xs → V h S xs) → V 0 S xs
def vh_M_exists (o : Nat → Nat) (G : GS → Nat → List (Nat × Value) → List Value → Prop) (h : Nat) (S : GS) (xs : List Int32) : Prop := match h, xs with
  | 0, [v1] => G S 0 [(0, .ref (o 0)), (1, .int v1)] []
  | _, _ => True
set_option maxHeartbeats 4000000 in
set_option maxRecDepth 100000 in
theorem wk_M_exists_0 {l : Launch} {dC : Nat → ClassId} {dI : Nat → Nat → Nat} {cI cZ : ClassId} {o : Nat → Nat}  {p : Program} {e : Env} {s : State} {m : MethodId} {args : Array Value} {below : List Frame} {meth : Method} {c : Code} {A : Nat → Prop} {post : Int32 → GS → Prop} (C : GC p s m args c cM_exists 2 RM wsA (dC, dI) gx_cl [(cI, .int), (cZ, .boolean)] A) (hr : meth.sig.returnType = (some .boolean)) (hlocks : meth.locks = false) (S : GS) (v1 : Int32) (hs : sp_M_exists post (vh_M_exists o (GV p l e ({ frames := 2, cells := 0, slots := 0, locals := 41 }) s m args below meth c (MQ below (va_Qi post (GB (mw cI cZ o) (dC, dI) gx_cl [(cI, .int), (cZ, .boolean)] A) A) args s 0 0 A) 2 (dC, dI) gx_cl A (mw cI cZ o))) 0 S [v1]) : GV p l e ({ frames := 2, cells := 0, slots := 0, locals := 41 }) s m args below meth c (MQ below (va_Qi post (GB (mw cI cZ o) (dC, dI) gx_cl [(cI, .int), (cZ, .boolean)] A) A) args s 0 0 A) 2 (dC, dI) gx_cl A (mw cI cZ o) S 0 [(0, .ref (o 0)), (1, .int v1)] [] := by
  refine gx_aload_n C dM_exists_0 0 rfl rfl ?_
  refine gx_iconst (v := 0) C dM_exists_1 (by decide) ?_
  refine gx_put C mo_this hi_M tyM tyM_ok nmM 0 (by decide) fl_M_58 rfl (by decide +kernel) (Nat.le_of_ble_eq_true rfl) (mp_thrown _ _) dM_exists_2 (fun S1 eS1 => ?_)
  replace hs := hs S1 eS1
  refine gx_aload_n C dM_exists_5 0 rfl rfl ?_
  refine gx_iload_n C dM_exists_6 1 rfl rfl ?_
  refine gx_calli (As := [.int v1]) (rest := []) C (mt_M_isObject l dC dI cI cZ o  _ _ _ hs) (gx_cwV C 1 ln_M_65 im_M_isObject se_M_isObject in_CountedObjectsModel cd_M_isObject rfl rfl (by decide +kernel) ⟨Nat.le_of_ble_eq_true rfl, Nat.le_of_ble_eq_true rfl⟩) mo_this rfl (Nat.le_of_ble_eq_true rfl) dM_exists_7 (fun S1 => mw_ad _ S1) rfl (fun r3 S2 hs => ?_)
  exact gx_zret C hr hlocks dM_exists_10 hs.2 hs.1
set_option maxHeartbeats 4000000 in
set_option maxRecDepth 100000 in
theorem mt_M_exists (l : Launch) (dC : Nat → ClassId) (dI : Nat → Nat → Nat) (cI cZ : ClassId) (o : Nat → Nat) (v1 : Int32) (S : GS) (post : Int32 → GS → Prop) (h : wp_M_exists [v1] S post) : MetI l yM_exists (Cond.code yM_exists cM_exists 2 (some .boolean) :: wsA) ({ frames := 2, cells := 0, slots := 0, locals := 41 }) (dC, dI) gx_cl [(cI, .int), (cZ, .boolean)] (mw cI cZ o) [.ref (o 0), .int v1] S post := by
  refine gx_metI (by decide) wsA_good (Nat.le_of_ble_eq_true rfl) ?_
  intro p e s m args below meth c A C hr hlocks
  refine h (vh_M_exists o (GV p l e ({ frames := 2, cells := 0, slots := 0, locals := 41 }) s m args below meth c (MQ below (va_Qi post (GB (mw cI cZ o) (dC, dI) gx_cl [(cI, .int), (cZ, .boolean)] A) A) args s 0 0 A) 2 (dC, dI) gx_cl A (mw cI cZ o))) (fun h S xs hs => ?_)
  unfold sp_M_exists at hs
  split at hs
  · exact wk_M_exists_0 C hr hlocks _ _ hs
  · exact hs.elim
/-- CountedObjectsModel.count(I)I: a step from head to head -/
def sp_M_count (post : Int32 → GS → Prop) (V : Nat → GS → List Int32 → Prop) (h : Nat) (S : GS) (xs : List Int32) : Prop := match h, xs with
  | 0, [v1] => (∀ S1 : GS, S1 = gx_set 100 0 0 S → wp_M_isObject  [v1] S1 (fun r3 S2 => ((r3 = 0 → post 0 S2) ∧ (¬ r3 = 0 → (vp_in (v1 / 2) 41 ∧ post (S2 4 (v1 / 2).toNatClampNeg) S2)))))
  | _, _ => False
def wp_M_count (xs : List Int32) (S : GS) (post : Int32 → GS → Prop) : Prop := ∀ V : Nat → GS → List Int32 → Prop, (∀ h S xs, sp_M_count post V h S xs → V h S xs) → V 0 S xs
def vh_M_count (o : Nat → Nat) (G : GS → Nat → List (Nat × Value) → List Value → Prop) (h : Nat) (S : GS) (xs : List Int32) : Prop := match h, xs with
  | 0, [v1] => G S 0 [(0, .ref (o 0)), (1, .int v1)] []
  | _, _ => True
set_option maxHeartbeats 4000000 in
set_option maxRecDepth 100000 in
theorem wk_M_count_0 {l : Launch} {dC : Nat → ClassId} {dI : Nat → Nat → Nat} {cI cZ : ClassId} {o : Nat → Nat}  {p : Program} {e : Env} {s : State} {m : MethodId} {args : Array Value} {below : List Frame} {meth : Method} {c : Code} {A : Nat → Prop} {post : Int32 → GS → Prop} (C : GC p s m args c cM_count 2 RM wsA (dC, dI) gx_cl [(cI, .int), (cZ, .boolean)] A) (hr : meth.sig.returnType = (some .int)) (hlocks : meth.locks = false) (S : GS) (v1 : Int32) (hs : sp_M_count post (vh_M_count o (GV p l e ({ frames := 2, cells := 0, slots := 0, locals := 41 }) s m args below meth c (MQ below (va_Qi post (GB (mw cI cZ o) (dC, dI) gx_cl [(cI, .int), (cZ, .boolean)] A) A) args s 0 0 A) 2 (dC, dI) gx_cl A (mw cI cZ o))) 0 S [v1]) : GV p l e ({ frames := 2, cells := 0, slots := 0, locals := 41 }) s m args below meth c (MQ below (va_Qi post (GB (mw cI cZ o) (dC, dI) gx_cl [(cI, .int), (cZ, .boolean)] A) A) args s 0 0 A) 2 (dC, dI) gx_cl A (mw cI cZ o) S 0 [(0, .ref (o 0)), (1, .int v1)] [] := by
  refine gx_aload_n C dM_count_0 0 rfl rfl ?_
  refine gx_iconst (v := 0) C dM_count_1 (by decide) ?_
  refine gx_put C mo_this hi_M tyM tyM_ok nmM 0 (by decide) fl_M_58 rfl (by decide +kernel) (Nat.le_of_ble_eq_true rfl) (mp_thrown _ _) dM_count_2 (fun S1 eS1 => ?_)
  replace hs := hs S1 eS1
  refine gx_aload_n C dM_count_5 0 rfl rfl ?_
  refine gx_iload_n C dM_count_6 1 rfl rfl ?_
  refine gx_calli (As := [.int v1]) (rest := []) C (mt_M_isObject l dC dI cI cZ o  _ _ _ hs) (gx_cwV C 1 ln_M_65 im_M_isObject se_M_isObject in_CountedObjectsModel cd_M_isObject rfl rfl (by decide +kernel) ⟨Nat.le_of_ble_eq_true rfl, Nat.le_of_ble_eq_true rfl⟩) mo_this rfl (Nat.le_of_ble_eq_true rfl) dM_count_7 (fun S1 => mw_ad _ S1) rfl (fun r3 S2 hs => ?_)
  obtain ⟨ht, hf⟩ := hs
  refine gx_if_eq C dM_count_10 24 rfl (fun hc => ?_) (fun hc => ?_)
  · have hs := ht hc
    refine gx_iconst (v := 0) C dM_count_24 (by decide) ?_
    exact gx_iret C hr hlocks dM_count_25 hs
  · have hs := hf hc
    refine gx_aload_n C dM_count_13 0 rfl rfl ?_
    refine gx_get C mo_this hi_M 7 (by decide) fl_M_23 rfl dM_count_14 ?_
    refine gx_iload_n C dM_count_17 1 rfl rfl ?_
    refine gx_iconst (v := 2) C dM_count_18 (by decide) ?_
    refine gx_idiv C dM_count_19 (by decide) ?_
    obtain ⟨hin, hs⟩ := hs
    refine gx_iald C ma_counts hin dM_count_20 ?_
    refine gx_goto C dM_count_21 25 rfl ?_
    exact gx_iret C hr hlocks dM_count_25 hs
set_option maxHeartbeats 4000000 in
set_option maxRecDepth 100000 in
theorem mt_M_count (l : Launch) (dC : Nat → ClassId) (dI : Nat → Nat → Nat) (cI cZ : ClassId) (o : Nat → Nat) (v1 : Int32) (S : GS) (post : Int32 → GS → Prop) (h : wp_M_count [v1] S post) : MetI l yM_count (Cond.code yM_count cM_count 2 (some .int) :: wsA) ({ frames := 2, cells := 0, slots := 0, locals := 41 }) (dC, dI) gx_cl [(cI, .int), (cZ, .boolean)] (mw cI cZ o) [.ref (o 0), .int v1] S post := by
  refine gx_metI (by decide) wsA_good (Nat.le_of_ble_eq_true rfl) ?_
  intro p e s m args below meth c A C hr hlocks
  refine h (vh_M_count o (GV p l e ({ frames := 2, cells := 0, slots := 0, locals := 41 }) s m args below meth c (MQ below (va_Qi post (GB (mw cI cZ o) (dC, dI) gx_cl [(cI, .int), (cZ, .boolean)] A) A) args s 0 0 A) 2 (dC, dI) gx_cl A (mw cI cZ o))) (fun h S xs hs => ?_)
  unfold sp_M_count at hs
  split at hs
  · exact wk_M_count_0 C hr hlocks _ _ hs
  · exact hs.elim
/-- CountedObjectsModel.address(I)I: a step from head to head -/
def sp_M_address (post : Int32 → GS → Prop) (V : Nat → GS → List Int32 → Prop) (h : Nat) (S : GS) (xs : List Int32) : Prop := match h, xs with
  | 0, [v1] => (∀ S1 : GS, S1 = gx_set 100 0 0 S → wp_M_isObject  [v1] S1 (fun r3 S2 => ((r3 = 0 → post (-1) S2) ∧ (¬ r3 = 0 → (vp_in (v1 / 2) 41 ∧ post (S2 2 (v1 / 2).toNatClampNeg) S2)))))
  | _, _ => False
def wp_M_address (xs : List Int32) (S : GS) (post : Int32 → GS → Prop) : Prop := ∀ V : Nat → GS → List Int32 → Prop, (∀ h S xs, sp_M_address post V h S xs → V h S xs) → V 0 S xs
def vh_M_address (o : Nat → Nat) (G : GS → Nat → List (Nat × Value) → List Value → Prop) (h : Nat) (S : GS) (xs : List Int32) : Prop := match h, xs with
  | 0, [v1] => G S 0 [(0, .ref (o 0)), (1, .int v1)] []
  | _, _ => True
set_option maxHeartbeats 4000000 in
set_option maxRecDepth 100000 in
theorem wk_M_address_0 {l : Launch} {dC : Nat → ClassId} {dI : Nat → Nat → Nat} {cI cZ : ClassId} {o : Nat → Nat}  {p : Program} {e : Env} {s : State} {m : MethodId} {args : Array Value} {below : List Frame} {meth : Method} {c : Code} {A : Nat → Prop} {post : Int32 → GS → Prop} (C : GC p s m args c cM_address 2 RM wsA (dC, dI) gx_cl [(cI, .int), (cZ, .boolean)] A) (hr : meth.sig.returnType = (some .int)) (hlocks : meth.locks = false) (S : GS) (v1 : Int32) (hs : sp_M_address post (vh_M_address o (GV p l e ({ frames := 2, cells := 0, slots := 0, locals := 41 }) s m args below meth c (MQ below (va_Qi post (GB (mw cI cZ o) (dC, dI) gx_cl [(cI, .int), (cZ, .boolean)] A) A) args s 0 0 A) 2 (dC, dI) gx_cl A (mw cI cZ o))) 0 S [v1]) : GV p l e ({ frames := 2, cells := 0, slots := 0, locals := 41 }) s m args below meth c (MQ below (va_Qi post (GB (mw cI cZ o) (dC, dI) gx_cl [(cI, .int), (cZ, .boolean)] A) A) args s 0 0 A) 2 (dC, dI) gx_cl A (mw cI cZ o) S 0 [(0, .ref (o 0)), (1, .int v1)] [] := by
  refine gx_aload_n C dM_address_0 0 rfl rfl ?_
  refine gx_iconst (v := 0) C dM_address_1 (by decide) ?_
  refine gx_put C mo_this hi_M tyM tyM_ok nmM 0 (by decide) fl_M_58 rfl (by decide +kernel) (Nat.le_of_ble_eq_true rfl) (mp_thrown _ _) dM_address_2 (fun S1 eS1 => ?_)
  replace hs := hs S1 eS1
  refine gx_aload_n C dM_address_5 0 rfl rfl ?_
  refine gx_iload_n C dM_address_6 1 rfl rfl ?_
  refine gx_calli (As := [.int v1]) (rest := []) C (mt_M_isObject l dC dI cI cZ o  _ _ _ hs) (gx_cwV C 1 ln_M_65 im_M_isObject se_M_isObject in_CountedObjectsModel cd_M_isObject rfl rfl (by decide +kernel) ⟨Nat.le_of_ble_eq_true rfl, Nat.le_of_ble_eq_true rfl⟩) mo_this rfl (Nat.le_of_ble_eq_true rfl) dM_address_7 (fun S1 => mw_ad _ S1) rfl (fun r3 S2 hs => ?_)
  obtain ⟨ht, hf⟩ := hs
  refine gx_if_eq C dM_address_10 24 rfl (fun hc => ?_) (fun hc => ?_)
  · have hs := ht hc
    refine gx_iconst (v := (-1)) C dM_address_24 (by decide) ?_
    exact gx_iret C hr hlocks dM_address_25 hs
  · have hs := hf hc
    refine gx_aload_n C dM_address_13 0 rfl rfl ?_
    refine gx_get C mo_this hi_M 5 (by decide) fl_M_17 rfl dM_address_14 ?_
    refine gx_iload_n C dM_address_17 1 rfl rfl ?_
    refine gx_iconst (v := 2) C dM_address_18 (by decide) ?_
    refine gx_idiv C dM_address_19 (by decide) ?_
    obtain ⟨hin, hs⟩ := hs
    refine gx_iald C ma_addresses hin dM_address_20 ?_
    refine gx_goto C dM_address_21 25 rfl ?_
    exact gx_iret C hr hlocks dM_address_25 hs
set_option maxHeartbeats 4000000 in
set_option maxRecDepth 100000 in
theorem mt_M_address (l : Launch) (dC : Nat → ClassId) (dI : Nat → Nat → Nat) (cI cZ : ClassId) (o : Nat → Nat) (v1 : Int32) (S : GS) (post : Int32 → GS → Prop) (h : wp_M_address [v1] S post) : MetI l yM_address (Cond.code yM_address cM_address 2 (some .int) :: wsA) ({ frames := 2, cells := 0, slots := 0, locals := 41 }) (dC, dI) gx_cl [(cI, .int), (cZ, .boolean)] (mw cI cZ o) [.ref (o 0), .int v1] S post := by
  refine gx_metI (by decide) wsA_good (Nat.le_of_ble_eq_true rfl) ?_
  intro p e s m args below meth c A C hr hlocks
  refine h (vh_M_address o (GV p l e ({ frames := 2, cells := 0, slots := 0, locals := 41 }) s m args below meth c (MQ below (va_Qi post (GB (mw cI cZ o) (dC, dI) gx_cl [(cI, .int), (cZ, .boolean)] A) A) args s 0 0 A) 2 (dC, dI) gx_cl A (mw cI cZ o))) (fun h S xs hs => ?_)
  unfold sp_M_address at hs
  split at hs
  · exact wk_M_address_0 C hr hlocks _ _ hs
  · exact hs.elim
/-- CountedObjectsModel.chunks(I)I: a step from head to head -/
def sp_M_chunks (post : Int32 → GS → Prop) (V : Nat → GS → List Int32 → Prop) (h : Nat) (S : GS) (xs : List Int32) : Prop := match h, xs with
  | 0, [v1] => (∀ S1 : GS, S1 = gx_set 100 0 0 S → ∀ y2 : Int32, y2 = 0 → ∀ y3 : Int32, y3 = 0 → V 9 S1 [v1, y2, y3])
  | 9, [v1, v2, v3] => (((S 100 3) ≤ v3 → post v2 S) ∧ (¬ (S 100 3) ≤ v3 → ((v1 = 0 → ∀ y1 : Int32, y1 = v2 + 1 → (∀ y2 : Int32, y2 = v3 + 1 → V 9 S [v1, y1, y2])) ∧ (¬ v1 = 0 → (vp_in v3 400 ∧ ((¬ (S 7 (v3).toNatClampNeg) = v1 → (∀ y3 : Int32, y3 = v3 + 1 → V 9 S [v1, v2, y3])) ∧ ((S 7 (v3).toNatClampNeg) = v1 → ∀ y4 : Int32, y4 = v2 + 1 → (∀ y5 : Int32, y5 = v3 + 1 → V 9 S [v1, y4, y5]))))))))
  | _, _ => False
def wp_M_chunks (xs : List Int32) (S : GS) (post : Int32 → GS → Prop) : Prop := ∀ V : Nat → GS → List Int32 → Prop, (∀ h S xs, sp_M_chunks post V h S xs → V h S xs) → V 0 S xs
def vh_M_chunks (o : Nat → Nat) (G : GS → Nat → List (Nat × Value) → List Value → Prop) (h : Nat) (S : GS) (xs : List Int32) : Prop := match h, xs with
  | 0, [v1] => G S 0 [(0, .ref (o 0)), (1, .int v1)] []
  | 9, [v1, v2, v3] => G S 9 [(0, .ref (o 0)), (1, .int v1), (2, .int v2), (3, .int v3)] []
  | _, _ => True
set_option maxHeartbeats 4000000 in
set_option maxRecDepth 100000 in
theorem wk_M_chunks_0 {l : Launch} {dC : Nat → ClassId} {dI : Nat → Nat → Nat} {cI cZ : ClassId} {o : Nat → Nat}  {p : Program} {e : Env} {s : State} {m : MethodId} {args : Array Value} {below : List Frame} {meth : Method} {c : Code} {A : Nat → Prop} {post : Int32 → GS → Prop} (C : GC p s m args c cM_chunks 4 RM wsA (dC, dI) gx_cl [(cI, .int), (cZ, .boolean)] A) (hr : meth.sig.returnType = (some .int)) (hlocks : meth.locks = false) (S : GS) (v1 : Int32) (hs : sp_M_chunks post (vh_M_chunks o (GV p l e ({ frames := 0, cells := 0, slots := 0, locals := 0 }) s m args below meth c (MQ below (va_Qi post (GB (mw cI cZ o) (dC, dI) gx_cl [(cI, .int), (cZ, .boolean)] A) A) args s 0 0 A) 4 (dC, dI) gx_cl A (mw cI cZ o))) 0 S [v1]) : GV p l e ({ frames := 0, cells := 0, slots := 0, locals := 0 }) s m args below meth c (MQ below (va_Qi post (GB (mw cI cZ o) (dC, dI) gx_cl [(cI, .int), (cZ, .boolean)] A) A) args s 0 0 A) 4 (dC, dI) gx_cl A (mw cI cZ o) S 0 [(0, .ref (o 0)), (1, .int v1)] [] := by
  refine gx_aload_n C dM_chunks_0 0 rfl rfl ?_
  refine gx_iconst (v := 0) C dM_chunks_1 (by decide) ?_
  refine gx_put C mo_this hi_M tyM tyM_ok nmM 0 (by decide) fl_M_58 rfl (by decide +kernel) (Nat.le_of_ble_eq_true rfl) (mp_thrown _ _) dM_chunks_2 (fun S1 eS1 => ?_)
  replace hs := hs S1 eS1
  refine gx_iconst (v := 0) C dM_chunks_5 (by decide) ?_
  refine gx_top (fun y2 ey2 => ?_)
  replace hs := hs y2 ey2
  refine gx_istore_n (L' := [(2, .int y2), (0, .ref (o 0)), (1, .int v1)]) C dM_chunks_6 rfl (by decide) rfl ?_
  refine gx_iconst (v := 0) C dM_chunks_7 (by decide) ?_
  refine gx_top (fun y3 ey3 => ?_)
  replace hs := hs y3 ey3
  refine gx_istore_n (L' := [(3, .int y3), (2, .int y2), (0, .ref (o 0)), (1, .int v1)]) C dM_chunks_8 rfl (by decide) rfl ?_
  exact gx_sub [2, 3, 1, 0] rfl hs
set_option maxHeartbeats 4000000 in
set_option maxRecDepth 100000 in
theorem wk_M_chunks_9 {l : Launch} {dC : Nat → ClassId} {dI : Nat → Nat → Nat} {cI cZ : ClassId} {o : Nat → Nat}  {p : Program} {e : Env} {s : State} {m : MethodId} {args : Array Value} {below : List Frame} {meth : Method} {c : Code} {A : Nat → Prop} {post : Int32 → GS → Prop} (C : GC p s m args c cM_chunks 4 RM wsA (dC, dI) gx_cl [(cI, .int), (cZ, .boolean)] A) (hr : meth.sig.returnType = (some .int)) (hlocks : meth.locks = false) (S : GS) (v1 : Int32) (v2 : Int32) (v3 : Int32) (hs : sp_M_chunks post (vh_M_chunks o (GV p l e ({ frames := 0, cells := 0, slots := 0, locals := 0 }) s m args below meth c (MQ below (va_Qi post (GB (mw cI cZ o) (dC, dI) gx_cl [(cI, .int), (cZ, .boolean)] A) A) args s 0 0 A) 4 (dC, dI) gx_cl A (mw cI cZ o))) 9 S [v1, v2, v3]) : GV p l e ({ frames := 0, cells := 0, slots := 0, locals := 0 }) s m args below meth c (MQ below (va_Qi post (GB (mw cI cZ o) (dC, dI) gx_cl [(cI, .int), (cZ, .boolean)] A) A) args s 0 0 A) 4 (dC, dI) gx_cl A (mw cI cZ o) S 9 [(0, .ref (o 0)), (1, .int v1), (2, .int v2), (3, .int v3)] [] := by
  refine gx_iload_n C dM_chunks_9 3 rfl rfl ?_
  refine gx_aload_n C dM_chunks_10 0 rfl rfl ?_
  refine gx_get C mo_this hi_M 9 (by decide) fl_M_68 rfl dM_chunks_11 ?_
  obtain ⟨ht, hf⟩ := hs
  refine gx_icmp_ge C dM_chunks_14 45 rfl (fun hc => ?_) (fun hc => ?_)
  · have hs := ht hc
    refine gx_iload_n C dM_chunks_45 2 rfl rfl ?_
    exact gx_iret C hr hlocks dM_chunks_46 hs
  · have hs := hf hc
    refine gx_iload_n C dM_chunks_17 1 rfl rfl ?_
    obtain ⟨ht, hf⟩ := hs
    refine gx_if_eq C dM_chunks_18 31 rfl (fun hc => ?_) (fun hc => ?_)
    · have hs := ht hc
      refine gx_iload_n C dM_chunks_31 2 rfl rfl ?_
      refine gx_iconst (v := 1) C dM_chunks_32 (by decide) ?_
      refine gx_iadd C dM_chunks_33 ?_
      refine gx_goto C dM_chunks_34 38 rfl ?_
      refine gx_top (fun y1 ey1 => ?_)
      replace hs := hs y1 ey1
      refine gx_istore_n (L' := [(2, .int y1), (0, .ref (o 0)), (1, .int v1), (3, .int v3)]) C dM_chunks_38 rfl (by decide) rfl ?_
      refine gx_iinc (v0 := 1) (f := fun v => [(3, .int v), (2, .int y1), (0, .ref (o 0)), (1, .int v1)]) C dM_chunks_39 3 rfl (by decide) (by decide) (fun _ => rfl) (fun y2 ey2 => ?_)
      replace hs := hs y2 ey2
      refine gx_goto C dM_chunks_42 9 rfl ?_
      exact gx_sub [2, 3, 1, 0] rfl hs
    · have hs := hf hc
      refine gx_aload_n C dM_chunks_21 0 rfl rfl ?_
      refine gx_get C mo_this hi_M 11 (by decide) fl_M_32 rfl dM_chunks_22 ?_
      refine gx_iload_n C dM_chunks_25 3 rfl rfl ?_
      obtain ⟨hin, hs⟩ := hs
      refine gx_iald C ma_lengths hin dM_chunks_26 ?_
      refine gx_iload_n C dM_chunks_27 1 rfl rfl ?_
      obtain ⟨ht, hf⟩ := hs
      refine gx_icmp_ne C dM_chunks_28 37 rfl (fun hc => ?_) (fun hc => ?_)
      · have hs := ht hc
        refine gx_iload_n C dM_chunks_37 2 rfl rfl ?_
        refine gx_istore_n (L' := [(2, .int v2), (0, .ref (o 0)), (1, .int v1), (3, .int v3)]) C dM_chunks_38 rfl (by decide) rfl ?_
        refine gx_iinc (v0 := 1) (f := fun v => [(3, .int v), (2, .int v2), (0, .ref (o 0)), (1, .int v1)]) C dM_chunks_39 3 rfl (by decide) (by decide) (fun _ => rfl) (fun y3 ey3 => ?_)
        replace hs := hs y3 ey3
        refine gx_goto C dM_chunks_42 9 rfl ?_
        exact gx_sub [2, 3, 1, 0] rfl hs
      · have hs := hf hc
        refine gx_iload_n C dM_chunks_31 2 rfl rfl ?_
        refine gx_iconst (v := 1) C dM_chunks_32 (by decide) ?_
        refine gx_iadd C dM_chunks_33 ?_
        refine gx_goto C dM_chunks_34 38 rfl ?_
        refine gx_top (fun y4 ey4 => ?_)
        replace hs := hs y4 ey4
        refine gx_istore_n (L' := [(2, .int y4), (0, .ref (o 0)), (1, .int v1), (3, .int v3)]) C dM_chunks_38 rfl (by decide) rfl ?_
        refine gx_iinc (v0 := 1) (f := fun v => [(3, .int v), (2, .int y4), (0, .ref (o 0)), (1, .int v1)]) C dM_chunks_39 3 rfl (by decide) (by decide) (fun _ => rfl) (fun y5 ey5 => ?_)
        replace hs := hs y5 ey5
        refine gx_goto C dM_chunks_42 9 rfl ?_
        exact gx_sub [2, 3, 1, 0] rfl hs
set_option maxHeartbeats 4000000 in
set_option maxRecDepth 100000 in
theorem mt_M_chunks (l : Launch) (dC : Nat → ClassId) (dI : Nat → Nat → Nat) (cI cZ : ClassId) (o : Nat → Nat) (v1 : Int32) (S : GS) (post : Int32 → GS → Prop) (h : wp_M_chunks [v1] S post) : MetI l yM_chunks (Cond.code yM_chunks cM_chunks 4 (some .int) :: wsA) ({ frames := 0, cells := 0, slots := 0, locals := 0 }) (dC, dI) gx_cl [(cI, .int), (cZ, .boolean)] (mw cI cZ o) [.ref (o 0), .int v1] S post := by
  refine gx_metI (by decide) wsA_good (Nat.le_of_ble_eq_true rfl) ?_
  intro p e s m args below meth c A C hr hlocks
  refine h (vh_M_chunks o (GV p l e ({ frames := 0, cells := 0, slots := 0, locals := 0 }) s m args below meth c (MQ below (va_Qi post (GB (mw cI cZ o) (dC, dI) gx_cl [(cI, .int), (cZ, .boolean)] A) A) args s 0 0 A) 4 (dC, dI) gx_cl A (mw cI cZ o))) (fun h S xs hs => ?_)
  unfold sp_M_chunks at hs
  split at hs
  · exact wk_M_chunks_0 C hr hlocks _ _ hs
  · exact wk_M_chunks_9 C hr hlocks _ _ _ _ hs
  · exact hs.elim
/-- CountedObjectsModel.free()I: a step from head to head -/
def sp_M_free (post : Int32 → GS → Prop) (V : Nat → GS → List Int32 → Prop) (h : Nat) (S : GS) (xs : List Int32) : Prop := match h, xs with
  | 0, [] => (∀ S1 : GS, S1 = gx_set 100 0 0 S → wp_M_freeWords  [] S1 (fun r3 S2 => post r3 S2))
  | _, _ => False
def wp_M_free (xs : List Int32) (S : GS) (post : Int32 → GS → Prop) : Prop := ∀ V : Nat → GS → List Int32 → Prop, (∀ h S xs, sp_M_free post V h S xs → V h S xs) → V 0 S xs
def vh_M_free (o : Nat → Nat) (G : GS → Nat → List (Nat × Value) → List Value → Prop) (h : Nat) (S : GS) (xs : List Int32) : Prop := match h, xs with
  | 0, [] => G S 0 [(0, .ref (o 0))] []
  | _, _ => True
set_option maxHeartbeats 4000000 in
set_option maxRecDepth 100000 in
theorem wk_M_free_0 {l : Launch} {dC : Nat → ClassId} {dI : Nat → Nat → Nat} {cI cZ : ClassId} {o : Nat → Nat}  {p : Program} {e : Env} {s : State} {m : MethodId} {args : Array Value} {below : List Frame} {meth : Method} {c : Code} {A : Nat → Prop} {post : Int32 → GS → Prop} (C : GC p s m args c cM_free 1 RM wsA (dC, dI) gx_cl [(cI, .int), (cZ, .boolean)] A) (hr : meth.sig.returnType = (some .int)) (hlocks : meth.locks = false) (S : GS) (hs : sp_M_free post (vh_M_free o (GV p l e ({ frames := 1, cells := 0, slots := 0, locals := 22 }) s m args below meth c (MQ below (va_Qi post (GB (mw cI cZ o) (dC, dI) gx_cl [(cI, .int), (cZ, .boolean)] A) A) args s 0 0 A) 1 (dC, dI) gx_cl A (mw cI cZ o))) 0 S []) : GV p l e ({ frames := 1, cells := 0, slots := 0, locals := 22 }) s m args below meth c (MQ below (va_Qi post (GB (mw cI cZ o) (dC, dI) gx_cl [(cI, .int), (cZ, .boolean)] A) A) args s 0 0 A) 1 (dC, dI) gx_cl A (mw cI cZ o) S 0 [(0, .ref (o 0))] [] := by
  refine gx_aload_n C dM_free_0 0 rfl rfl ?_
  refine gx_iconst (v := 0) C dM_free_1 (by decide) ?_
  refine gx_put C mo_this hi_M tyM tyM_ok nmM 0 (by decide) fl_M_58 rfl (by decide +kernel) (Nat.le_of_ble_eq_true rfl) (mp_thrown _ _) dM_free_2 (fun S1 eS1 => ?_)
  replace hs := hs S1 eS1
  refine gx_aload_n C dM_free_5 0 rfl rfl ?_
  refine gx_calli (As := []) (rest := []) C (mt_M_freeWords l dC dI cI cZ o  _ _ hs) (gx_cwV C 0 ln_M_78 im_M_freeWords se_M_freeWords in_CountedObjectsModel cd_M_freeWords rfl rfl (by decide +kernel) ⟨Nat.le_of_ble_eq_true rfl, Nat.le_of_ble_eq_true rfl⟩) mo_this rfl (Nat.le_of_ble_eq_true rfl) dM_free_6 (fun S1 => mw_ad _ S1) rfl (fun r3 S2 hs => ?_)
  exact gx_iret C hr hlocks dM_free_9 hs
set_option maxHeartbeats 4000000 in
set_option maxRecDepth 100000 in
theorem mt_M_free (l : Launch) (dC : Nat → ClassId) (dI : Nat → Nat → Nat) (cI cZ : ClassId) (o : Nat → Nat) (S : GS) (post : Int32 → GS → Prop) (h : wp_M_free [] S post) : MetI l yM_free (Cond.code yM_free cM_free 1 (some .int) :: wsA) ({ frames := 1, cells := 0, slots := 0, locals := 22 }) (dC, dI) gx_cl [(cI, .int), (cZ, .boolean)] (mw cI cZ o) [.ref (o 0)] S post := by
  refine gx_metI (by decide) wsA_good (Nat.le_of_ble_eq_true rfl) ?_
  intro p e s m args below meth c A C hr hlocks
  refine h (vh_M_free o (GV p l e ({ frames := 1, cells := 0, slots := 0, locals := 22 }) s m args below meth c (MQ below (va_Qi post (GB (mw cI cZ o) (dC, dI) gx_cl [(cI, .int), (cZ, .boolean)] A) A) args s 0 0 A) 1 (dC, dI) gx_cl A (mw cI cZ o))) (fun h S xs hs => ?_)
  unfold sp_M_free at hs
  split at hs
  · exact wk_M_free_0 C hr hlocks _ hs
  · exact hs.elim
/-- CountedObjectsModel.objects()I: a step from head to head -/
def sp_M_objects (post : Int32 → GS → Prop) (V : Nat → GS → List Int32 → Prop) (h : Nat) (S : GS) (xs : List Int32) : Prop := match h, xs with
  | 0, [] => (∀ S1 : GS, S1 = gx_set 100 0 0 S → ∀ y2 : Int32, y2 = 0 → ∀ y3 : Int32, y3 = 1 → V 9 S1 [y2, y3])
  | 9, [v1, v2] => (((S 100 2) < v2 → post v1 S) ∧ (¬ (S 100 2) < v2 → (vp_in v2 41 ∧ (((S 1 (v2).toNatClampNeg) = 0 → (∀ y1 : Int32, y1 = v2 + 1 → V 9 S [v1, y1])) ∧ (¬ (S 1 (v2).toNatClampNeg) = 0 → ∀ y2 : Int32, y2 = v1 + 1 → (∀ y3 : Int32, y3 = v2 + 1 → V 9 S [y2, y3]))))))
  | _, _ => False
def wp_M_objects (xs : List Int32) (S : GS) (post : Int32 → GS → Prop) : Prop := ∀ V : Nat → GS → List Int32 → Prop, (∀ h S xs, sp_M_objects post V h S xs → V h S xs) → V 0 S xs
def vh_M_objects (o : Nat → Nat) (G : GS → Nat → List (Nat × Value) → List Value → Prop) (h : Nat) (S : GS) (xs : List Int32) : Prop := match h, xs with
  | 0, [] => G S 0 [(0, .ref (o 0))] []
  | 9, [v1, v2] => G S 9 [(0, .ref (o 0)), (1, .int v1), (2, .int v2)] []
  | _, _ => True
set_option maxHeartbeats 4000000 in
set_option maxRecDepth 100000 in
theorem wk_M_objects_0 {l : Launch} {dC : Nat → ClassId} {dI : Nat → Nat → Nat} {cI cZ : ClassId} {o : Nat → Nat}  {p : Program} {e : Env} {s : State} {m : MethodId} {args : Array Value} {below : List Frame} {meth : Method} {c : Code} {A : Nat → Prop} {post : Int32 → GS → Prop} (C : GC p s m args c cM_objects 3 RM wsA (dC, dI) gx_cl [(cI, .int), (cZ, .boolean)] A) (hr : meth.sig.returnType = (some .int)) (hlocks : meth.locks = false) (S : GS) (hs : sp_M_objects post (vh_M_objects o (GV p l e ({ frames := 0, cells := 0, slots := 0, locals := 0 }) s m args below meth c (MQ below (va_Qi post (GB (mw cI cZ o) (dC, dI) gx_cl [(cI, .int), (cZ, .boolean)] A) A) args s 0 0 A) 3 (dC, dI) gx_cl A (mw cI cZ o))) 0 S []) : GV p l e ({ frames := 0, cells := 0, slots := 0, locals := 0 }) s m args below meth c (MQ below (va_Qi post (GB (mw cI cZ o) (dC, dI) gx_cl [(cI, .int), (cZ, .boolean)] A) A) args s 0 0 A) 3 (dC, dI) gx_cl A (mw cI cZ o) S 0 [(0, .ref (o 0))] [] := by
  refine gx_aload_n C dM_objects_0 0 rfl rfl ?_
  refine gx_iconst (v := 0) C dM_objects_1 (by decide) ?_
  refine gx_put C mo_this hi_M tyM tyM_ok nmM 0 (by decide) fl_M_58 rfl (by decide +kernel) (Nat.le_of_ble_eq_true rfl) (mp_thrown _ _) dM_objects_2 (fun S1 eS1 => ?_)
  replace hs := hs S1 eS1
  refine gx_iconst (v := 0) C dM_objects_5 (by decide) ?_
  refine gx_top (fun y2 ey2 => ?_)
  replace hs := hs y2 ey2
  refine gx_istore_n (L' := [(1, .int y2), (0, .ref (o 0))]) C dM_objects_6 rfl (by decide) rfl ?_
  refine gx_iconst (v := 1) C dM_objects_7 (by decide) ?_
  refine gx_top (fun y3 ey3 => ?_)
  replace hs := hs y3 ey3
  refine gx_istore_n (L' := [(2, .int y3), (1, .int y2), (0, .ref (o 0))]) C dM_objects_8 rfl (by decide) rfl ?_
  exact gx_sub [2, 1, 0] rfl hs
set_option maxHeartbeats 4000000 in
set_option maxRecDepth 100000 in
theorem wk_M_objects_9 {l : Launch} {dC : Nat → ClassId} {dI : Nat → Nat → Nat} {cI cZ : ClassId} {o : Nat → Nat}  {p : Program} {e : Env} {s : State} {m : MethodId} {args : Array Value} {below : List Frame} {meth : Method} {c : Code} {A : Nat → Prop} {post : Int32 → GS → Prop} (C : GC p s m args c cM_objects 3 RM wsA (dC, dI) gx_cl [(cI, .int), (cZ, .boolean)] A) (hr : meth.sig.returnType = (some .int)) (hlocks : meth.locks = false) (S : GS) (v1 : Int32) (v2 : Int32) (hs : sp_M_objects post (vh_M_objects o (GV p l e ({ frames := 0, cells := 0, slots := 0, locals := 0 }) s m args below meth c (MQ below (va_Qi post (GB (mw cI cZ o) (dC, dI) gx_cl [(cI, .int), (cZ, .boolean)] A) A) args s 0 0 A) 3 (dC, dI) gx_cl A (mw cI cZ o))) 9 S [v1, v2]) : GV p l e ({ frames := 0, cells := 0, slots := 0, locals := 0 }) s m args below meth c (MQ below (va_Qi post (GB (mw cI cZ o) (dC, dI) gx_cl [(cI, .int), (cZ, .boolean)] A) A) args s 0 0 A) 3 (dC, dI) gx_cl A (mw cI cZ o) S 9 [(0, .ref (o 0)), (1, .int v1), (2, .int v2)] [] := by
  refine gx_iload_n C dM_objects_9 2 rfl rfl ?_
  refine gx_aload_n C dM_objects_10 0 rfl rfl ?_
  refine gx_get C mo_this hi_M 2 (by decide) fl_M_51 rfl dM_objects_11 ?_
  obtain ⟨ht, hf⟩ := hs
  refine gx_icmp_gt C dM_objects_14 40 rfl (fun hc => ?_) (fun hc => ?_)
  · have hs := ht hc
    refine gx_iload_n C dM_objects_40 1 rfl rfl ?_
    exact gx_iret C hr hlocks dM_objects_41 hs
  · have hs := hf hc
    refine gx_aload_n C dM_objects_17 0 rfl rfl ?_
    refine gx_get C mo_this hi_M 4 (by decide) fl_M_13 rfl dM_objects_18 ?_
    refine gx_iload_n C dM_objects_21 2 rfl rfl ?_
    obtain ⟨hin, hs⟩ := hs
    refine gx_zald C ma_lives hin dM_objects_22 ?_
    obtain ⟨ht, hf⟩ := hs
    refine gx_if_eq C dM_objects_23 32 rfl (fun hc => ?_) (fun hc => ?_)
    · have hs := ht hc
      refine gx_iload_n C dM_objects_32 1 rfl rfl ?_
      refine gx_istore_n (L' := [(1, .int v1), (0, .ref (o 0)), (2, .int v2)]) C dM_objects_33 rfl (by decide) rfl ?_
      refine gx_iinc (v0 := 1) (f := fun v => [(2, .int v), (1, .int v1), (0, .ref (o 0))]) C dM_objects_34 2 rfl (by decide) (by decide) (fun _ => rfl) (fun y1 ey1 => ?_)
      replace hs := hs y1 ey1
      refine gx_goto C dM_objects_37 9 rfl ?_
      exact gx_sub [2, 1, 0] rfl hs
    · have hs := hf hc
      refine gx_iload_n C dM_objects_26 1 rfl rfl ?_
      refine gx_iconst (v := 1) C dM_objects_27 (by decide) ?_
      refine gx_iadd C dM_objects_28 ?_
      refine gx_goto C dM_objects_29 33 rfl ?_
      refine gx_top (fun y2 ey2 => ?_)
      replace hs := hs y2 ey2
      refine gx_istore_n (L' := [(1, .int y2), (0, .ref (o 0)), (2, .int v2)]) C dM_objects_33 rfl (by decide) rfl ?_
      refine gx_iinc (v0 := 1) (f := fun v => [(2, .int v), (1, .int y2), (0, .ref (o 0))]) C dM_objects_34 2 rfl (by decide) (by decide) (fun _ => rfl) (fun y3 ey3 => ?_)
      replace hs := hs y3 ey3
      refine gx_goto C dM_objects_37 9 rfl ?_
      exact gx_sub [2, 1, 0] rfl hs
set_option maxHeartbeats 4000000 in
set_option maxRecDepth 100000 in
theorem mt_M_objects (l : Launch) (dC : Nat → ClassId) (dI : Nat → Nat → Nat) (cI cZ : ClassId) (o : Nat → Nat) (S : GS) (post : Int32 → GS → Prop) (h : wp_M_objects [] S post) : MetI l yM_objects (Cond.code yM_objects cM_objects 3 (some .int) :: wsA) ({ frames := 0, cells := 0, slots := 0, locals := 0 }) (dC, dI) gx_cl [(cI, .int), (cZ, .boolean)] (mw cI cZ o) [.ref (o 0)] S post := by
  refine gx_metI (by decide) wsA_good (Nat.le_of_ble_eq_true rfl) ?_
  intro p e s m args below meth c A C hr hlocks
  refine h (vh_M_objects o (GV p l e ({ frames := 0, cells := 0, slots := 0, locals := 0 }) s m args below meth c (MQ below (va_Qi post (GB (mw cI cZ o) (dC, dI) gx_cl [(cI, .int), (cZ, .boolean)] A) A) args s 0 0 A) 3 (dC, dI) gx_cl A (mw cI cZ o))) (fun h S xs hs => ?_)
  unfold sp_M_objects at hs
  split at hs
  · exact wk_M_objects_0 C hr hlocks _ hs
  · exact wk_M_objects_9 C hr hlocks _ _ _ hs
  · exact hs.elim
