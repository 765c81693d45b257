/-- CountedObjects.countAnew()V: a step from head to head -/
def sp_X_countAnew (W E : Nat) (post : GS → Prop) (V : Nat → GS → List Int32 → Prop) (h : Nat) (S : GS) (xs : List Int32) : Prop := match h, xs with
  | 0, [] => ((E + 1) < 2 ^ 31 ∧ ∀ S1 : GS, S1 = fl_row 2 (E + 1) 0 S → ∀ y2 : Int32, y2 = 0 → V 10 S1 [y2])
  | 10, [v1] => ((8 ≤ v1 → ∀ y1 : Int32, y1 = 0 → V 34 S [y1]) ∧ (¬ 8 ≤ v1 → (vp_in v1 8 ∧ wp_X_addReference W E [S 3 (v1).toNatClampNeg] S (fun S2 => (∀ y4 : Int32, y4 = v1 + 1 → V 10 S2 [y4])))))
  | 34, [v1] => (((S 100 1) ≤ v1 → post S) ∧ (¬ (S 100 1) ≤ v1 → (vp_in v1 E ∧ ∀ y1 : Int32, y1 = S 5 (v1).toNatClampNeg → (vp_in y1 (E + 1) ∧ wp_X_wordsOf W E [y1] S (fun r3 S2 => ∀ y4 : Int32, y4 = (S 1 (y1).toNatClampNeg) + r3 → (vp_in y1 (E + 1) ∧ ∀ y5 : Int32, y5 = (S2 1 (y1).toNatClampNeg) + 1 → V 72 S2 [v1, y1, y4, y5]))))))
  | 72, [v1, v2, v3, v4] => ((v3 ≤ v4 → (∀ y1 : Int32, y1 = v1 + 1 → V 34 S [y1])) ∧ (¬ v3 ≤ v4 → (vp_in v4 W ∧ wp_X_addReference W E [S 0 (v4).toNatClampNeg] S (fun S2 => (∀ y4 : Int32, y4 = v4 + 1 → V 72 S2 [v1, v2, v3, y4])))))
  | _, _ => False
def wp_X_countAnew (W E : Nat) (xs : List Int32) (S : GS) (post : GS → Prop) : Prop := ∀ V : Nat → GS → List Int32 → Prop, (∀ h S xs, sp_X_countAnew W E post V h S xs → V h S xs) → V 0 S xs
def vh_X_countAnew (o : Nat → Nat) (G : GS → Nat → List (Nat × Value) → List Value → Prop) (h : Nat) (S : GS) (xs : List Int32) : Prop := match h, xs with
  | 0, [] => G S 0 [(0, .ref (o 0))] []
  | 10, [v1] => G S 10 [(0, .ref (o 0)), (1, .int v1)] []
  | 34, [v1] => G S 34 [(0, .ref (o 0)), (1, .int v1)] []
  | 72, [v1, v2, v3, v4] => G S 72 [(0, .ref (o 0)), (1, .int v1), (2, .int v2), (3, .int v3), (4, .int v4)] []
  | _, _ => True
set_option maxHeartbeats 4000000 in
set_option maxRecDepth 100000 in
theorem wk_X_countAnew_0 {l : Launch} {dC : Nat → ClassId} {dI : Nat → Nat → Nat} {cI cZ : ClassId} {o : Nat → Nat} {W E : Nat} {p : Program} {e : Env} {s : State} {m : MethodId} {args : Array Value} {below : List Frame} {meth : Method} {c : Code} {A : Nat → Prop} {post : GS → Prop} (C : GC p s m args c cX_countAnew 5 RX wsA (dC, dI) gx_cl [(cI, .int), (cZ, .boolean)] A) (hr : meth.sig.returnType = none) (hlocks : meth.locks = false) (S : GS) (hs : sp_X_countAnew W E post (vh_X_countAnew o (GV p l e ({ frames := 3, cells := 0, slots := 0, locals := 68 }) s m args below meth c (MQ below (va_Qv post (GB (xw cI cZ o W E) (dC, dI) gx_cl [(cI, .int), (cZ, .boolean)] A) A) args s 0 0 A) 5 (dC, dI) gx_cl A (xw cI cZ o W E))) 0 S []) : GV p l e ({ frames := 3, cells := 0, slots := 0, locals := 68 }) s m args below meth c (MQ below (va_Qv post (GB (xw cI cZ o W E) (dC, dI) gx_cl [(cI, .int), (cZ, .boolean)] A) A) args s 0 0 A) 5 (dC, dI) gx_cl A (xw cI cZ o W E) S 0 [(0, .ref (o 0))] [] := by
  refine gx_aload_n C dX_countAnew_0 0 rfl rfl ?_
  refine gx_get C xo_this hi_X 2 (by decide) fl_X_25 rfl dX_countAnew_1 ?_
  refine gx_iconst (v := 0) C dX_countAnew_4 (by decide) ?_
  obtain ⟨hn, hs⟩ := hs
  refine gx_fill C xa_counts hn (Nat.le_of_ble_eq_true rfl) (Nat.le_of_ble_eq_true rfl) (Nat.le_of_ble_eq_true rfl) dX_countAnew_5 (fun S1 => xw_ad _ S1) (fun S1 eS1 => ?_)
  replace hs := hs S1 eS1
  refine gx_iconst (v := 0) C dX_countAnew_8 (by decide) ?_
  refine gx_top (fun y2 ey2 => ?_)
  replace hs := hs y2 ey2
  refine gx_istore_n (L' := [(1, .int y2), (0, .ref (o 0))]) C dX_countAnew_9 rfl (by decide) rfl ?_
  exact gx_sub [1, 0] rfl hs
set_option maxHeartbeats 4000000 in
set_option maxRecDepth 100000 in
theorem wk_X_countAnew_10 {l : Launch} {dC : Nat → ClassId} {dI : Nat → Nat → Nat} {cI cZ : ClassId} {o : Nat → Nat} {W E : Nat} {p : Program} {e : Env} {s : State} {m : MethodId} {args : Array Value} {below : List Frame} {meth : Method} {c : Code} {A : Nat → Prop} {post : GS → Prop} (C : GC p s m args c cX_countAnew 5 RX wsA (dC, dI) gx_cl [(cI, .int), (cZ, .boolean)] A) (hr : meth.sig.returnType = none) (hlocks : meth.locks = false) (S : GS) (v1 : Int32) (hs : sp_X_countAnew W E post (vh_X_countAnew o (GV p l e ({ frames := 3, cells := 0, slots := 0, locals := 68 }) s m args below meth c (MQ below (va_Qv post (GB (xw cI cZ o W E) (dC, dI) gx_cl [(cI, .int), (cZ, .boolean)] A) A) args s 0 0 A) 5 (dC, dI) gx_cl A (xw cI cZ o W E))) 10 S [v1]) : GV p l e ({ frames := 3, cells := 0, slots := 0, locals := 68 }) s m args below meth c (MQ below (va_Qv post (GB (xw cI cZ o W E) (dC, dI) gx_cl [(cI, .int), (cZ, .boolean)] A) A) args s 0 0 A) 5 (dC, dI) gx_cl A (xw cI cZ o W E) S 10 [(0, .ref (o 0)), (1, .int v1)] [] := by
  refine gx_iload_n C dX_countAnew_10 1 rfl rfl ?_
  refine gx_bipush (v := 8) C dX_countAnew_11 (by decide) ?_
  obtain ⟨ht, hf⟩ := hs
  refine gx_icmp_ge C dX_countAnew_13 32 rfl (fun hc => ?_) (fun hc => ?_)
  · have hs := ht hc
    refine gx_iconst (v := 0) C dX_countAnew_32 (by decide) ?_
    refine gx_top (fun y1 ey1 => ?_)
    replace hs := hs y1 ey1
    refine gx_istore_n (L' := [(1, .int y1), (0, .ref (o 0))]) C dX_countAnew_33 rfl (by decide) rfl ?_
    exact gx_sub [1, 0] rfl hs
  · have hs := hf hc
    refine gx_aload_n C dX_countAnew_16 0 rfl rfl ?_
    refine gx_aload_n C dX_countAnew_17 0 rfl rfl ?_
    refine gx_get C xo_this hi_X 3 (by decide) fl_X_28 rfl dX_countAnew_18 ?_
    refine gx_iload_n C dX_countAnew_21 1 rfl rfl ?_
    obtain ⟨hin, hs⟩ := hs
    refine gx_iald C xa_registers hin dX_countAnew_22 ?_
    refine gx_callv (As := [.int (S 3 (v1).toNatClampNeg)]) (rest := []) C (mt_X_addReference l dC dI cI cZ o W E _ _ _ hs) (gx_cwV C 1 ln_X_97 im_X_addReference se_X_addReference in_CountedObjects cd_X_addReference rfl rfl (by decide +kernel) ⟨Nat.le_of_ble_eq_true rfl, Nat.le_of_ble_eq_true rfl⟩) xo_this rfl (Nat.le_of_ble_eq_true rfl) dX_countAnew_23 (fun S1 => xw_ad _ S1) rfl (fun S2 hs => ?_)
    refine gx_iinc (v0 := 1) (f := fun v => [(1, .int v), (0, .ref (o 0))]) C dX_countAnew_26 1 rfl (by decide) (by decide) (fun _ => rfl) (fun y4 ey4 => ?_)
    replace hs := hs y4 ey4
    refine gx_goto C dX_countAnew_29 10 rfl ?_
    exact gx_sub [1, 0] rfl hs
set_option maxHeartbeats 4000000 in
set_option maxRecDepth 100000 in
theorem wk_X_countAnew_34 {l : Launch} {dC : Nat → ClassId} {dI : Nat → Nat → Nat} {cI cZ : ClassId} {o : Nat → Nat} {W E : Nat} {p : Program} {e : Env} {s : State} {m : MethodId} {args : Array Value} {below : List Frame} {meth : Method} {c : Code} {A : Nat → Prop} {post : GS → Prop} (C : GC p s m args c cX_countAnew 5 RX wsA (dC, dI) gx_cl [(cI, .int), (cZ, .boolean)] A) (hr : meth.sig.returnType = none) (hlocks : meth.locks = false) (S : GS) (v1 : Int32) (hs : sp_X_countAnew W E post (vh_X_countAnew o (GV p l e ({ frames := 3, cells := 0, slots := 0, locals := 68 }) s m args below meth c (MQ below (va_Qv post (GB (xw cI cZ o W E) (dC, dI) gx_cl [(cI, .int), (cZ, .boolean)] A) A) args s 0 0 A) 5 (dC, dI) gx_cl A (xw cI cZ o W E))) 34 S [v1]) : GV p l e ({ frames := 3, cells := 0, slots := 0, locals := 68 }) s m args below meth c (MQ below (va_Qv post (GB (xw cI cZ o W E) (dC, dI) gx_cl [(cI, .int), (cZ, .boolean)] A) A) args s 0 0 A) 5 (dC, dI) gx_cl A (xw cI cZ o W E) S 34 [(0, .ref (o 0)), (1, .int v1)] [] := by
  refine gx_iload_n C dX_countAnew_34 1 rfl rfl ?_
  refine gx_aload_n C dX_countAnew_35 0 rfl rfl ?_
  refine gx_get C xo_this hi_X 7 (by decide) fl_X_47 rfl dX_countAnew_36 ?_
  obtain ⟨ht, hf⟩ := hs
  refine gx_icmp_ge C dX_countAnew_39 101 rfl (fun hc => ?_) (fun hc => ?_)
  · have hs := ht hc
    exact gx_vret C hr hlocks dX_countAnew_101 hs
  · have hs := hf hc
    refine gx_aload_n C dX_countAnew_42 0 rfl rfl ?_
    refine gx_get C xo_this hi_X 6 (by decide) fl_X_44 rfl dX_countAnew_43 ?_
    refine gx_iload_n C dX_countAnew_46 1 rfl rfl ?_
    obtain ⟨hin, hs⟩ := hs
    refine gx_iald C xa_reachedEntries hin dX_countAnew_47 ?_
    refine gx_top (fun y1 ey1 => ?_)
    replace hs := hs y1 ey1
    refine gx_istore_n (L' := [(2, .int y1), (0, .ref (o 0)), (1, .int v1)]) C dX_countAnew_48 rfl (by decide) rfl ?_
    refine gx_aload_n C dX_countAnew_49 1 rfl rfl ?_
    refine gx_get C xo_this hi_X 1 (by decide) fl_X_22 rfl dX_countAnew_50 ?_
    refine gx_iload_n C dX_countAnew_53 0 rfl rfl ?_
    obtain ⟨hin, hs⟩ := hs
    refine gx_iald C xa_addresses hin dX_countAnew_54 ?_
    refine gx_aload_n C dX_countAnew_55 1 rfl rfl ?_
    refine gx_iload_n C dX_countAnew_56 0 rfl rfl ?_
    refine gx_calli (As := [.int y1]) (rest := [.int (S 1 (y1).toNatClampNeg)]) C (mt_X_wordsOf l dC dI cI cZ o W E _ _ _ hs) (gx_cwV C 1 ln_X_126 im_X_wordsOf se_X_wordsOf in_CountedObjects cd_X_wordsOf rfl rfl (by decide +kernel) ⟨Nat.le_of_ble_eq_true rfl, Nat.le_of_ble_eq_true rfl⟩) xo_this rfl (Nat.le_of_ble_eq_true rfl) dX_countAnew_57 (fun S1 => xw_ad _ S1) rfl (fun r3 S2 hs => ?_)
    refine gx_iadd C dX_countAnew_60 ?_
    refine gx_top (fun y4 ey4 => ?_)
    replace hs := hs y4 ey4
    refine gx_istore_n (L' := [(3, .int y4), (2, .int y1), (0, .ref (o 0)), (1, .int v1)]) C dX_countAnew_61 rfl (by decide) rfl ?_
    refine gx_aload_n C dX_countAnew_62 2 rfl rfl ?_
    refine gx_get C xo_this hi_X 1 (by decide) fl_X_22 rfl dX_countAnew_63 ?_
    refine gx_iload_n C dX_countAnew_66 1 rfl rfl ?_
    obtain ⟨hin, hs⟩ := hs
    refine gx_iald C xa_addresses hin dX_countAnew_67 ?_
    refine gx_iconst (v := 1) C dX_countAnew_68 (by decide) ?_
    refine gx_iadd C dX_countAnew_69 ?_
    refine gx_top (fun y5 ey5 => ?_)
    replace hs := hs y5 ey5
    refine gx_istore (L' := [(4, .int y5), (3, .int y4), (2, .int y1), (0, .ref (o 0)), (1, .int v1)]) C dX_countAnew_70 (by decide) rfl ?_
    exact gx_sub [3, 4, 2, 1, 0] rfl hs
set_option maxHeartbeats 4000000 in
set_option maxRecDepth 100000 in
theorem wk_X_countAnew_72 {l : Launch} {dC : Nat → ClassId} {dI : Nat → Nat → Nat} {cI cZ : ClassId} {o : Nat → Nat} {W E : Nat} {p : Program} {e : Env} {s : State} {m : MethodId} {args : Array Value} {below : List Frame} {meth : Method} {c : Code} {A : Nat → Prop} {post : GS → Prop} (C : GC p s m args c cX_countAnew 5 RX wsA (dC, dI) gx_cl [(cI, .int), (cZ, .boolean)] A) (hr : meth.sig.returnType = none) (hlocks : meth.locks = false) (S : GS) (v1 : Int32) (v2 : Int32) (v3 : Int32) (v4 : Int32) (hs : sp_X_countAnew W E post (vh_X_countAnew o (GV p l e ({ frames := 3, cells := 0, slots := 0, locals := 68 }) s m args below meth c (MQ below (va_Qv post (GB (xw cI cZ o W E) (dC, dI) gx_cl [(cI, .int), (cZ, .boolean)] A) A) args s 0 0 A) 5 (dC, dI) gx_cl A (xw cI cZ o W E))) 72 S [v1, v2, v3, v4]) : GV p l e ({ frames := 3, cells := 0, slots := 0, locals := 68 }) s m args below meth c (MQ below (va_Qv post (GB (xw cI cZ o W E) (dC, dI) gx_cl [(cI, .int), (cZ, .boolean)] A) A) args s 0 0 A) 5 (dC, dI) gx_cl A (xw cI cZ o W E) S 72 [(0, .ref (o 0)), (1, .int v1), (2, .int v2), (3, .int v3), (4, .int v4)] [] := by
  refine gx_iload C dX_countAnew_72 4 rfl ?_
  refine gx_iload_n C dX_countAnew_74 3 rfl rfl ?_
  obtain ⟨ht, hf⟩ := hs
  refine gx_icmp_ge C dX_countAnew_75 95 rfl (fun hc => ?_) (fun hc => ?_)
  · have hs := ht hc
    refine gx_iinc (v0 := 1) (f := fun v => [(1, .int v), (0, .ref (o 0)), (2, .int v2), (3, .int v3), (4, .int v4)]) C dX_countAnew_95 1 rfl (by decide) (by decide) (fun _ => rfl) (fun y1 ey1 => ?_)
    replace hs := hs y1 ey1
    refine gx_goto C dX_countAnew_98 34 rfl ?_
    exact gx_sub [1, 0] rfl hs
  · have hs := hf hc
    refine gx_aload_n C dX_countAnew_78 0 rfl rfl ?_
    refine gx_aload_n C dX_countAnew_79 0 rfl rfl ?_
    refine gx_get C xo_this hi_X 0 (by decide) fl_X_18 rfl dX_countAnew_80 ?_
    refine gx_iload C dX_countAnew_83 4 rfl ?_
    obtain ⟨hin, hs⟩ := hs
    refine gx_iald C xa_words hin dX_countAnew_85 ?_
    refine gx_callv (As := [.int (S 0 (v4).toNatClampNeg)]) (rest := []) C (mt_X_addReference l dC dI cI cZ o W E _ _ _ hs) (gx_cwV C 1 ln_X_97 im_X_addReference se_X_addReference in_CountedObjects cd_X_addReference rfl rfl (by decide +kernel) ⟨Nat.le_of_ble_eq_true rfl, Nat.le_of_ble_eq_true rfl⟩) xo_this rfl (Nat.le_of_ble_eq_true rfl) dX_countAnew_86 (fun S1 => xw_ad _ S1) rfl (fun S2 hs => ?_)
    refine gx_iinc (v0 := 1) (f := fun v => [(4, .int v), (0, .ref (o 0)), (1, .int v1), (2, .int v2), (3, .int v3)]) C dX_countAnew_89 4 rfl (by decide) (by decide) (fun _ => rfl) (fun y4 ey4 => ?_)
    replace hs := hs y4 ey4
    refine gx_goto C dX_countAnew_92 72 rfl ?_
    exact gx_sub [1, 2, 3, 4, 0] rfl hs
set_option maxHeartbeats 4000000 in
set_option maxRecDepth 100000 in
theorem mt_X_countAnew (l : Launch) (dC : Nat → ClassId) (dI : Nat → Nat → Nat) (cI cZ : ClassId) (o : Nat → Nat) (W E : Nat) (S : GS) (post : GS → Prop) (h : wp_X_countAnew W E [] S post) : MetV l yX_countAnew (Cond.code yX_countAnew cX_countAnew 5 none :: wsA) ({ frames := 3, cells := 0, slots := 0, locals := 68 }) (dC, dI) gx_cl [(cI, .int), (cZ, .boolean)] (xw cI cZ o W E) [.ref (o 0)] S post := by
  refine gx_metV (by decide) wsA_good (Nat.le_of_ble_eq_true rfl) ?_
  intro p e s m args below meth c A C hr hlocks
  refine h (vh_X_countAnew o (GV p l e ({ frames := 3, cells := 0, slots := 0, locals := 68 }) s m args below meth c (MQ below (va_Qv post (GB (xw cI cZ o W E) (dC, dI) gx_cl [(cI, .int), (cZ, .boolean)] A) A) args s 0 0 A) 5 (dC, dI) gx_cl A (xw cI cZ o W E))) (fun h S xs hs => ?_)
  unfold sp_X_countAnew at hs
  split at hs
  · exact wk_X_countAnew_0 C hr hlocks _ hs
  · exact wk_X_countAnew_10 C hr hlocks _ _ hs
  · exact wk_X_countAnew_34 C hr hlocks _ _ hs
  · exact wk_X_countAnew_72 C hr hlocks _ _ _ _ _ hs
  · exact hs.elim
/-- CountedObjects.takeUnreached(I)I: a step from head to head -/
def sp_X_takeUnreached (W E : Nat) (post : Int32 → GS → Prop) (V : Nat → GS → List Int32 → Prop) (h : Nat) (S : GS) (xs : List Int32) : Prop := match h, xs with
  | 0, [v1] => wp_X_findReached W E [v1] S (fun S1 => ∀ y3 : Int32, y3 = 0 → ∀ y4 : Int32, y4 = 1 → V 9 S1 [v1, y3, y4])
  | 9, [v1, v2, v3] => (((nI (E + 1)) ≤ v3 → wp_X_countAnew W E [] S (fun S1 => post v2 S1)) ∧ (¬ (nI (E + 1)) ≤ v3 → wp_X_isUsed W E [v3] S (fun r4 S3 => ((r4 = 0 → (∀ y5 : Int32, y5 = v3 + 1 → V 9 S3 [v1, v2, y5])) ∧ (¬ r4 = 0 → (vp_in v3 (E + 1) ∧ ((¬ (S3 4 (v3).toNatClampNeg) = 0 → (∀ y6 : Int32, y6 = v3 + 1 → V 9 S3 [v1, v2, y6])) ∧ ((S3 4 (v3).toNatClampNeg) = 0 → wp_X_freeEntry W E [v3] S3 (fun S7 => (∀ y9 : Int32, y9 = v2 + 1 → (∀ y10 : Int32, y10 = v3 + 1 → V 9 S7 [v1, y9, y10])))))))))))
  | _, _ => False
def wp_X_takeUnreached (W E : Nat) (xs : List Int32) (S : GS) (post : Int32 → GS → Prop) : Prop := ∀ V : Nat → GS → List Int32 → Prop, (∀ h S xs, sp_X_takeUnreached W E post V h S xs → V h S xs) → V 0 S xs
def vh_X_takeUnreached (o : Nat → Nat) (G : GS → Nat → List (Nat × Value) → List Value → Prop) (h : Nat) (S : GS) (xs : List Int32) : Prop := match h, xs with
  | 0, [v1] => G S 0 [(0, .ref (o 0)), (1, .int v1)] []
  | 9, [v1, v2, v3] => G S 9 [(0, .ref (o 0)), (1, .int v1), (2, .int v2), (3, .int v3)] []
  | _, _ => True
set_option maxHeartbeats 4000000 in
set_option maxRecDepth 100000 in
theorem wk_X_takeUnreached_0 {l : Launch} {dC : Nat → ClassId} {dI : Nat → Nat → Nat} {cI cZ : ClassId} {o : Nat → Nat} {W E : Nat} {p : Program} {e : Env} {s : State} {m : MethodId} {args : Array Value} {below : List Frame} {meth : Method} {c : Code} {A : Nat → Prop} {post : Int32 → GS → Prop} (C : GC p s m args c cX_takeUnreached 4 RX wsA (dC, dI) gx_cl [(cI, .int), (cZ, .boolean)] A) (hr : meth.sig.returnType = (some .int)) (hlocks : meth.locks = false) (S : GS) (v1 : Int32) (hs : sp_X_takeUnreached W E post (vh_X_takeUnreached o (GV p l e ({ frames := 4, cells := 0, slots := 0, locals := 92 }) s m args below meth c (MQ below (va_Qi post (GB (xw cI cZ o W E) (dC, dI) gx_cl [(cI, .int), (cZ, .boolean)] A) A) args s 0 0 A) 4 (dC, dI) gx_cl A (xw cI cZ o W E))) 0 S [v1]) : GV p l e ({ frames := 4, cells := 0, slots := 0, locals := 92 }) s m args below meth c (MQ below (va_Qi post (GB (xw cI cZ o W E) (dC, dI) gx_cl [(cI, .int), (cZ, .boolean)] A) A) args s 0 0 A) 4 (dC, dI) gx_cl A (xw cI cZ o W E) S 0 [(0, .ref (o 0)), (1, .int v1)] [] := by
  refine gx_aload_n C dX_takeUnreached_0 0 rfl rfl ?_
  refine gx_iload_n C dX_takeUnreached_1 1 rfl rfl ?_
  refine gx_callv (As := [.int v1]) (rest := []) C (mt_X_findReached l dC dI cI cZ o W E _ _ _ hs) (gx_cwV C 1 ln_X_153 im_X_findReached se_X_findReached in_CountedObjects cd_X_findReached rfl rfl (by decide +kernel) ⟨Nat.le_of_ble_eq_true rfl, Nat.le_of_ble_eq_true rfl⟩) xo_this rfl (Nat.le_of_ble_eq_true rfl) dX_takeUnreached_2 (fun S1 => xw_ad _ S1) rfl (fun S1 hs => ?_)
  refine gx_iconst (v := 0) C dX_takeUnreached_5 (by decide) ?_
  refine gx_top (fun y3 ey3 => ?_)
  replace hs := hs y3 ey3
  refine gx_istore_n (L' := [(2, .int y3), (0, .ref (o 0)), (1, .int v1)]) C dX_takeUnreached_6 rfl (by decide) rfl ?_
  refine gx_iconst (v := 1) C dX_takeUnreached_7 (by decide) ?_
  refine gx_top (fun y4 ey4 => ?_)
  replace hs := hs y4 ey4
  refine gx_istore_n (L' := [(3, .int y4), (2, .int y3), (0, .ref (o 0)), (1, .int v1)]) C dX_takeUnreached_8 rfl (by decide) rfl ?_
  exact gx_sub [2, 3, 1, 0] rfl hs
set_option maxHeartbeats 4000000 in
set_option maxRecDepth 100000 in
theorem wk_X_takeUnreached_9 {l : Launch} {dC : Nat → ClassId} {dI : Nat → Nat → Nat} {cI cZ : ClassId} {o : Nat → Nat} {W E : Nat} {p : Program} {e : Env} {s : State} {m : MethodId} {args : Array Value} {below : List Frame} {meth : Method} {c : Code} {A : Nat → Prop} {post : Int32 → GS → Prop} (C : GC p s m args c cX_takeUnreached 4 RX wsA (dC, dI) gx_cl [(cI, .int), (cZ, .boolean)] A) (hr : meth.sig.returnType = (some .int)) (hlocks : meth.locks = false) (S : GS) (v1 : Int32) (v2 : Int32) (v3 : Int32) (hs : sp_X_takeUnreached W E post (vh_X_takeUnreached o (GV p l e ({ frames := 4, cells := 0, slots := 0, locals := 92 }) s m args below meth c (MQ below (va_Qi post (GB (xw cI cZ o W E) (dC, dI) gx_cl [(cI, .int), (cZ, .boolean)] A) A) args s 0 0 A) 4 (dC, dI) gx_cl A (xw cI cZ o W E))) 9 S [v1, v2, v3]) : GV p l e ({ frames := 4, cells := 0, slots := 0, locals := 92 }) s m args below meth c (MQ below (va_Qi post (GB (xw cI cZ o W E) (dC, dI) gx_cl [(cI, .int), (cZ, .boolean)] A) A) args s 0 0 A) 4 (dC, dI) gx_cl A (xw cI cZ o W E) S 9 [(0, .ref (o 0)), (1, .int v1), (2, .int v2), (3, .int v3)] [] := by
  refine gx_iload_n C dX_takeUnreached_9 3 rfl rfl ?_
  refine gx_aload_n C dX_takeUnreached_10 0 rfl rfl ?_
  refine gx_get C xo_this hi_X 1 (by decide) fl_X_22 rfl dX_takeUnreached_11 ?_
  refine gx_alen C xa_addresses dX_takeUnreached_14 ?_
  obtain ⟨ht, hf⟩ := hs
  refine gx_icmp_ge C dX_takeUnreached_15 49 rfl (fun hc => ?_) (fun hc => ?_)
  · have hs := ht hc
    refine gx_aload_n C dX_takeUnreached_49 0 rfl rfl ?_
    refine gx_callv (As := []) (rest := []) C (mt_X_countAnew l dC dI cI cZ o W E _ _ hs) (gx_cwV C 0 ln_X_156 im_X_countAnew se_X_countAnew in_CountedObjects cd_X_countAnew rfl rfl (by decide +kernel) ⟨Nat.le_of_ble_eq_true rfl, Nat.le_of_ble_eq_true rfl⟩) xo_this rfl (Nat.le_of_ble_eq_true rfl) dX_takeUnreached_50 (fun S1 => xw_ad _ S1) rfl (fun S1 hs => ?_)
    refine gx_iload_n C dX_takeUnreached_53 2 rfl rfl ?_
    exact gx_iret C hr hlocks dX_takeUnreached_54 hs
  · have hs := hf hc
    refine gx_aload_n C dX_takeUnreached_18 0 rfl rfl ?_
    refine gx_iload_n C dX_takeUnreached_19 3 rfl rfl ?_
    refine gx_calli (As := [.int v3]) (rest := []) C (mt_X_isUsed l dC dI cI cZ o W E _ _ _ hs) (gx_cwV C 1 ln_X_120 im_X_isUsed se_X_isUsed in_CountedObjects cd_X_isUsed rfl rfl (by decide +kernel) ⟨Nat.le_of_ble_eq_true rfl, Nat.le_of_ble_eq_true rfl⟩) xo_this rfl (Nat.le_of_ble_eq_true rfl) dX_takeUnreached_20 (fun S1 => xw_ad _ S1) rfl (fun r4 S3 hs => ?_)
    obtain ⟨ht, hf⟩ := hs
    refine gx_if_eq C dX_takeUnreached_23 43 rfl (fun hc => ?_) (fun hc => ?_)
    · have hs := ht hc
      refine gx_iinc (v0 := 1) (f := fun v => [(3, .int v), (0, .ref (o 0)), (1, .int v1), (2, .int v2)]) C dX_takeUnreached_43 3 rfl (by decide) (by decide) (fun _ => rfl) (fun y5 ey5 => ?_)
      replace hs := hs y5 ey5
      refine gx_goto C dX_takeUnreached_46 9 rfl ?_
      exact gx_sub [1, 2, 3, 0] rfl hs
    · have hs := hf hc
      refine gx_aload_n C dX_takeUnreached_26 0 rfl rfl ?_
      refine gx_get C xo_this hi_X 5 (by decide) fl_X_40 rfl dX_takeUnreached_27 ?_
      refine gx_iload_n C dX_takeUnreached_30 3 rfl rfl ?_
      obtain ⟨hin, hs⟩ := hs
      refine gx_zald C xa_isReached hin dX_takeUnreached_31 ?_
      obtain ⟨ht, hf⟩ := hs
      refine gx_if_ne C dX_takeUnreached_32 43 rfl (fun hc => ?_) (fun hc => ?_)
      · have hs := ht hc
        refine gx_iinc (v0 := 1) (f := fun v => [(3, .int v), (0, .ref (o 0)), (1, .int v1), (2, .int v2)]) C dX_takeUnreached_43 3 rfl (by decide) (by decide) (fun _ => rfl) (fun y6 ey6 => ?_)
        replace hs := hs y6 ey6
        refine gx_goto C dX_takeUnreached_46 9 rfl ?_
        exact gx_sub [1, 2, 3, 0] rfl hs
      · have hs := hf hc
        refine gx_aload_n C dX_takeUnreached_35 0 rfl rfl ?_
        refine gx_iload_n C dX_takeUnreached_36 3 rfl rfl ?_
        refine gx_callv (As := [.int v3]) (rest := []) C (mt_X_freeEntry l dC dI cI cZ o W E _ _ _ hs) (gx_cwV C 1 ln_X_129 im_X_freeEntry se_X_freeEntry in_CountedObjects cd_X_freeEntry rfl rfl (by decide +kernel) ⟨Nat.le_of_ble_eq_true rfl, Nat.le_of_ble_eq_true rfl⟩) xo_this rfl (Nat.le_of_ble_eq_true rfl) dX_takeUnreached_37 (fun S1 => xw_ad _ S1) rfl (fun S7 hs => ?_)
        refine gx_iinc (v0 := 1) (f := fun v => [(2, .int v), (0, .ref (o 0)), (1, .int v1), (3, .int v3)]) C dX_takeUnreached_40 2 rfl (by decide) (by decide) (fun _ => rfl) (fun y9 ey9 => ?_)
        replace hs := hs y9 ey9
        refine gx_iinc (v0 := 1) (f := fun v => [(3, .int v), (2, .int y9), (0, .ref (o 0)), (1, .int v1)]) C dX_takeUnreached_43 3 rfl (by decide) (by decide) (fun _ => rfl) (fun y10 ey10 => ?_)
        replace hs := hs y10 ey10
        refine gx_goto C dX_takeUnreached_46 9 rfl ?_
        exact gx_sub [2, 3, 1, 0] rfl hs
set_option maxHeartbeats 4000000 in
set_option maxRecDepth 100000 in
theorem mt_X_takeUnreached (l : Launch) (dC : Nat → ClassId) (dI : Nat → Nat → Nat) (cI cZ : ClassId) (o : Nat → Nat) (W E : Nat) (v1 : Int32) (S : GS) (post : Int32 → GS → Prop) (h : wp_X_takeUnreached W E [v1] S post) : MetI l yX_takeUnreached (Cond.code yX_takeUnreached cX_takeUnreached 4 (some .int) :: wsA) ({ frames := 4, cells := 0, slots := 0, locals := 92 }) (dC, dI) gx_cl [(cI, .int), (cZ, .boolean)] (xw cI cZ o W E) [.ref (o 0), .int v1] S post := by
  refine gx_metI (by decide) wsA_good (Nat.le_of_ble_eq_true rfl) ?_
  intro p e s m args below meth c A C hr hlocks
  refine h (vh_X_takeUnreached o (GV p l e ({ frames := 4, cells := 0, slots := 0, locals := 92 }) s m args below meth c (MQ below (va_Qi post (GB (xw cI cZ o W E) (dC, dI) gx_cl [(cI, .int), (cZ, .boolean)] A) A) args s 0 0 A) 4 (dC, dI) gx_cl A (xw cI cZ o W E))) (fun h S xs hs => ?_)
  unfold sp_X_takeUnreached at hs
  split at hs
  · exact wk_X_takeUnreached_0 C hr hlocks _ _ hs
  · exact wk_X_takeUnreached_9 C hr hlocks _ _ _ _ hs
  · exact hs.elim
/-- CountedObjects.findRoom(II)I: a step from head to head -/
def sp_X_findRoom (W E : Nat) (post : Int32 → GS → Prop) (V : Nat → GS → List Int32 → Prop) (h : Nat) (S : GS) (xs : List Int32) : Prop := match h, xs with
  | 0, [v1, v2] => ∀ y1 : Int32, y1 = 0 → wp_X_leastFreeEntry W E [] S (fun r3 S2 => ((¬ r3 = 0 → wp_X_place W E [v1] S2 (fun r5 S4 => ((¬ r5 = (-1) → post r5 S4) ∧ (r5 = (-1) → ((¬ y1 = 0 → post r5 S4) ∧ (y1 = 0 → wp_X_takeUnreached W E [v2] S4 (fun r7 S6 => wp_X_place W E [v1] S6 (fun r9 S8 => post r9 S8)))))))) ∧ (r3 = 0 → wp_X_takeUnreached W E [v2] S2 (fun r11 S10 => ∀ y12 : Int32, y12 = 1 → wp_X_leastFreeEntry W E [] S10 (fun r14 S13 => ((¬ r14 = 0 → wp_X_place W E [v1] S13 (fun r16 S15 => ((¬ r16 = (-1) → post r16 S15) ∧ (r16 = (-1) → ((¬ y12 = 0 → post r16 S15) ∧ (y12 = 0 → wp_X_takeUnreached W E [v2] S15 (fun r18 S17 => wp_X_place W E [v1] S17 (fun r20 S19 => post r20 S19)))))))) ∧ (r14 = 0 → post (-1) S13)))))))
  | _, _ => False
def wp_X_findRoom (W E : Nat) (xs : List Int32) (S : GS) (post : Int32 → GS → Prop) : Prop := ∀ V : Nat → GS → List Int32 → Prop, (∀ h S xs, sp_X_findRoom W E post V h S xs → V h S xs) → V 0 S xs
def vh_X_findRoom (o : Nat → Nat) (G : GS → Nat → List (Nat × Value) → List Value → Prop) (h : Nat) (S : GS) (xs : List Int32) : Prop := match h, xs with
  | 0, [v1, v2] => G S 0 [(0, .ref (o 0)), (1, .int v1), (2, .int v2)] []
  | _, _ => True
set_option maxHeartbeats 4000000 in
set_option maxRecDepth 100000 in
theorem wk_X_findRoom_0 {l : Launch} {dC : Nat → ClassId} {dI : Nat → Nat → Nat} {cI cZ : ClassId} {o : Nat → Nat} {W E : Nat} {p : Program} {e : Env} {s : State} {m : MethodId} {args : Array Value} {below : List Frame} {meth : Method} {c : Code} {A : Nat → Prop} {post : Int32 → GS → Prop} (C : GC p s m args c cX_findRoom 5 RX wsA (dC, dI) gx_cl [(cI, .int), (cZ, .boolean)] A) (hr : meth.sig.returnType = (some .int)) (hlocks : meth.locks = false) (S : GS) (v1 : Int32) (v2 : Int32) (hs : sp_X_findRoom W E post (vh_X_findRoom o (GV p l e ({ frames := 5, cells := 0, slots := 0, locals := 135 }) s m args below meth c (MQ below (va_Qi post (GB (xw cI cZ o W E) (dC, dI) gx_cl [(cI, .int), (cZ, .boolean)] A) A) args s 0 0 A) 5 (dC, dI) gx_cl A (xw cI cZ o W E))) 0 S [v1, v2]) : GV p l e ({ frames := 5, cells := 0, slots := 0, locals := 135 }) s m args below meth c (MQ below (va_Qi post (GB (xw cI cZ o W E) (dC, dI) gx_cl [(cI, .int), (cZ, .boolean)] A) A) args s 0 0 A) 5 (dC, dI) gx_cl A (xw cI cZ o W E) S 0 [(0, .ref (o 0)), (1, .int v1), (2, .int v2)] [] := by
  refine gx_iconst (v := 0) C dX_findRoom_0 (by decide) ?_
  refine gx_top (fun y1 ey1 => ?_)
  replace hs := hs y1 ey1
  refine gx_istore_n (L' := [(3, .int y1), (0, .ref (o 0)), (1, .int v1), (2, .int v2)]) C dX_findRoom_1 rfl (by decide) rfl ?_
  refine gx_aload_n C dX_findRoom_2 1 rfl rfl ?_
  refine gx_calli (As := []) (rest := []) C (mt_X_leastFreeEntry l dC dI cI cZ o W E _ _ hs) (gx_cwV C 0 ln_X_73 im_X_leastFreeEntry se_X_leastFreeEntry in_CountedObjects cd_X_leastFreeEntry rfl rfl (by decide +kernel) ⟨Nat.le_of_ble_eq_true rfl, Nat.le_of_ble_eq_true rfl⟩) xo_this rfl (Nat.le_of_ble_eq_true rfl) dX_findRoom_3 (fun S1 => xw_ad _ S1) rfl (fun r3 S2 hs => ?_)
  obtain ⟨ht, hf⟩ := hs
  refine gx_if_ne C dX_findRoom_6 26 rfl (fun hc => ?_) (fun hc => ?_)
  · have hs := ht hc
    refine gx_aload_n C dX_findRoom_26 1 rfl rfl ?_
    refine gx_iload_n C dX_findRoom_27 2 rfl rfl ?_
    refine gx_calli (As := [.int v1]) (rest := []) C (mt_X_place l dC dI cI cZ o W E _ _ _ hs) (gx_cwV C 1 ln_X_135 im_X_place se_X_place in_CountedObjects cd_X_place rfl rfl (by decide +kernel) ⟨Nat.le_of_ble_eq_true rfl, Nat.le_of_ble_eq_true rfl⟩) xo_this rfl (Nat.le_of_ble_eq_true rfl) dX_findRoom_28 (fun S1 => xw_ad _ S1) rfl (fun r5 S4 hs => ?_)
    refine gx_istore (L' := [(4, .int r5), (3, .int y1), (0, .ref (o 0)), (1, .int v1), (2, .int v2)]) C dX_findRoom_31 (by decide) rfl ?_
    refine gx_iload C dX_findRoom_33 0 rfl ?_
    refine gx_iconst (v := (-1)) C dX_findRoom_35 (by decide) ?_
    obtain ⟨ht, hf⟩ := hs
    refine gx_icmp_ne C dX_findRoom_36 56 rfl (fun hc => ?_) (fun hc => ?_)
    · have hs := ht hc
      refine gx_iload C dX_findRoom_56 0 rfl ?_
      exact gx_iret C hr hlocks dX_findRoom_58 hs
    · have hs := hf hc
      refine gx_iload_n C dX_findRoom_39 1 rfl rfl ?_
      obtain ⟨ht, hf⟩ := hs
      refine gx_if_ne C dX_findRoom_40 56 rfl (fun hc => ?_) (fun hc => ?_)
      · have hs := ht hc
        refine gx_iload C dX_findRoom_56 0 rfl ?_
        exact gx_iret C hr hlocks dX_findRoom_58 hs
      · have hs := hf hc
        refine gx_aload_n C dX_findRoom_43 2 rfl rfl ?_
        refine gx_iload_n C dX_findRoom_44 4 rfl rfl ?_
        refine gx_calli (As := [.int v2]) (rest := []) C (mt_X_takeUnreached l dC dI cI cZ o W E _ _ _ hs) (gx_cwV C 1 ln_X_104 im_X_takeUnreached se_X_takeUnreached in_CountedObjects cd_X_takeUnreached rfl rfl (by decide +kernel) ⟨Nat.le_of_ble_eq_true rfl, Nat.le_of_ble_eq_true rfl⟩) xo_this rfl (Nat.le_of_ble_eq_true rfl) dX_findRoom_45 (fun S1 => xw_ad _ S1) rfl (fun r7 S6 hs => ?_)
        refine gx_pop C dX_findRoom_48 rfl ?_
        refine gx_aload_n C dX_findRoom_49 2 rfl rfl ?_
        refine gx_iload_n C dX_findRoom_50 3 rfl rfl ?_
        refine gx_calli (As := [.int v1]) (rest := []) C (mt_X_place l dC dI cI cZ o W E _ _ _ hs) (gx_cwV C 1 ln_X_135 im_X_place se_X_place in_CountedObjects cd_X_place rfl rfl (by decide +kernel) ⟨Nat.le_of_ble_eq_true rfl, Nat.le_of_ble_eq_true rfl⟩) xo_this rfl (Nat.le_of_ble_eq_true rfl) dX_findRoom_51 (fun S1 => xw_ad _ S1) rfl (fun r9 S8 hs => ?_)
        refine gx_istore (L' := [(4, .int r9), (3, .int y1), (0, .ref (o 0)), (1, .int v1), (2, .int v2)]) C dX_findRoom_54 (by decide) rfl ?_
        refine gx_iload C dX_findRoom_56 0 rfl ?_
        exact gx_iret C hr hlocks dX_findRoom_58 hs
  · have hs := hf hc
    refine gx_aload_n C dX_findRoom_9 1 rfl rfl ?_
    refine gx_iload_n C dX_findRoom_10 3 rfl rfl ?_
    refine gx_calli (As := [.int v2]) (rest := []) C (mt_X_takeUnreached l dC dI cI cZ o W E _ _ _ hs) (gx_cwV C 1 ln_X_104 im_X_takeUnreached se_X_takeUnreached in_CountedObjects cd_X_takeUnreached rfl rfl (by decide +kernel) ⟨Nat.le_of_ble_eq_true rfl, Nat.le_of_ble_eq_true rfl⟩) xo_this rfl (Nat.le_of_ble_eq_true rfl) dX_findRoom_11 (fun S1 => xw_ad _ S1) rfl (fun r11 S10 hs => ?_)
    refine gx_pop C dX_findRoom_14 rfl ?_
    refine gx_iconst (v := 1) C dX_findRoom_15 (by decide) ?_
    refine gx_top (fun y12 ey12 => ?_)
    replace hs := hs y12 ey12
    refine gx_istore_n (L' := [(3, .int y12), (0, .ref (o 0)), (1, .int v1), (2, .int v2)]) C dX_findRoom_16 rfl (by decide) rfl ?_
    refine gx_aload_n C dX_findRoom_17 1 rfl rfl ?_
    refine gx_calli (As := []) (rest := []) C (mt_X_leastFreeEntry l dC dI cI cZ o W E _ _ hs) (gx_cwV C 0 ln_X_73 im_X_leastFreeEntry se_X_leastFreeEntry in_CountedObjects cd_X_leastFreeEntry rfl rfl (by decide +kernel) ⟨Nat.le_of_ble_eq_true rfl, Nat.le_of_ble_eq_true rfl⟩) xo_this rfl (Nat.le_of_ble_eq_true rfl) dX_findRoom_18 (fun S1 => xw_ad _ S1) rfl (fun r14 S13 hs => ?_)
    obtain ⟨ht, hf⟩ := hs
    refine gx_if_ne C dX_findRoom_21 26 rfl (fun hc => ?_) (fun hc => ?_)
    · have hs := ht hc
      refine gx_aload_n C dX_findRoom_26 1 rfl rfl ?_
      refine gx_iload_n C dX_findRoom_27 2 rfl rfl ?_
      refine gx_calli (As := [.int v1]) (rest := []) C (mt_X_place l dC dI cI cZ o W E _ _ _ hs) (gx_cwV C 1 ln_X_135 im_X_place se_X_place in_CountedObjects cd_X_place rfl rfl (by decide +kernel) ⟨Nat.le_of_ble_eq_true rfl, Nat.le_of_ble_eq_true rfl⟩) xo_this rfl (Nat.le_of_ble_eq_true rfl) dX_findRoom_28 (fun S1 => xw_ad _ S1) rfl (fun r16 S15 hs => ?_)
      refine gx_istore (L' := [(4, .int r16), (3, .int y12), (0, .ref (o 0)), (1, .int v1), (2, .int v2)]) C dX_findRoom_31 (by decide) rfl ?_
      refine gx_iload C dX_findRoom_33 0 rfl ?_
      refine gx_iconst (v := (-1)) C dX_findRoom_35 (by decide) ?_
      obtain ⟨ht, hf⟩ := hs
      refine gx_icmp_ne C dX_findRoom_36 56 rfl (fun hc => ?_) (fun hc => ?_)
      · have hs := ht hc
        refine gx_iload C dX_findRoom_56 0 rfl ?_
        exact gx_iret C hr hlocks dX_findRoom_58 hs
      · have hs := hf hc
        refine gx_iload_n C dX_findRoom_39 1 rfl rfl ?_
        obtain ⟨ht, hf⟩ := hs
        refine gx_if_ne C dX_findRoom_40 56 rfl (fun hc => ?_) (fun hc => ?_)
        · have hs := ht hc
          refine gx_iload C dX_findRoom_56 0 rfl ?_
          exact gx_iret C hr hlocks dX_findRoom_58 hs
        · have hs := hf hc
          refine gx_aload_n C dX_findRoom_43 2 rfl rfl ?_
          refine gx_iload_n C dX_findRoom_44 4 rfl rfl ?_
          refine gx_calli (As := [.int v2]) (rest := []) C (mt_X_takeUnreached l dC dI cI cZ o W E _ _ _ hs) (gx_cwV C 1 ln_X_104 im_X_takeUnreached se_X_takeUnreached in_CountedObjects cd_X_takeUnreached rfl rfl (by decide +kernel) ⟨Nat.le_of_ble_eq_true rfl, Nat.le_of_ble_eq_true rfl⟩) xo_this rfl (Nat.le_of_ble_eq_true rfl) dX_findRoom_45 (fun S1 => xw_ad _ S1) rfl (fun r18 S17 hs => ?_)
          refine gx_pop C dX_findRoom_48 rfl ?_
          refine gx_aload_n C dX_findRoom_49 2 rfl rfl ?_
          refine gx_iload_n C dX_findRoom_50 3 rfl rfl ?_
          refine gx_calli (As := [.int v1]) (rest := []) C (mt_X_place l dC dI cI cZ o W E _ _ _ hs) (gx_cwV C 1 ln_X_135 im_X_place se_X_place in_CountedObjects cd_X_place rfl rfl (by decide +kernel) ⟨Nat.le_of_ble_eq_true rfl, Nat.le_of_ble_eq_true rfl⟩) xo_this rfl (Nat.le_of_ble_eq_true rfl) dX_findRoom_51 (fun S1 => xw_ad _ S1) rfl (fun r20 S19 hs => ?_)
          refine gx_istore (L' := [(4, .int r20), (3, .int y12), (0, .ref (o 0)), (1, .int v1), (2, .int v2)]) C dX_findRoom_54 (by decide) rfl ?_
          refine gx_iload C dX_findRoom_56 0 rfl ?_
          exact gx_iret C hr hlocks dX_findRoom_58 hs
    · have hs := hf hc
      refine gx_iconst (v := (-1)) C dX_findRoom_24 (by decide) ?_
      exact gx_iret C hr hlocks dX_findRoom_25 hs
set_option maxHeartbeats 4000000 in
set_option maxRecDepth 100000 in
theorem mt_X_findRoom (l : Launch) (dC : Nat → ClassId) (dI : Nat → Nat → Nat) (cI cZ : ClassId) (o : Nat → Nat) (W E : Nat) (v1 : Int32) (v2 : Int32) (S : GS) (post : Int32 → GS → Prop) (h : wp_X_findRoom W E [v1, v2] S post) : MetI l yX_findRoom (Cond.code yX_findRoom cX_findRoom 5 (some .int) :: wsA) ({ frames := 5, cells := 0, slots := 0, locals := 135 }) (dC, dI) gx_cl [(cI, .int), (cZ, .boolean)] (xw cI cZ o W E) [.ref (o 0), .int v1, .int v2] S post := by
  refine gx_metI (by decide) wsA_good (Nat.le_of_ble_eq_true rfl) ?_
  intro p e s m args below meth c A C hr hlocks
  refine h (vh_X_findRoom o (GV p l e ({ frames := 5, cells := 0, slots := 0, locals := 135 }) s m args below meth c (MQ below (va_Qi post (GB (xw cI cZ o W E) (dC, dI) gx_cl [(cI, .int), (cZ, .boolean)] A) A) args s 0 0 A) 5 (dC, dI) gx_cl A (xw cI cZ o W E))) (fun h S xs hs => ?_)
  unfold sp_X_findRoom at hs
  split at hs
  · exact wk_X_findRoom_0 C hr hlocks _ _ _ hs
  · exact hs.elim
/-- CountedObjects.collect()I: a step from head to head -/
def sp_X_collect (W E : Nat) (post : Int32 → GS → Prop) (V : Nat → GS → List Int32 → Prop) (h : Nat) (S : GS) (xs : List Int32) : Prop := match h, xs with
  | 0, [] => wp_X_takeUnreached W E [0] S (fun r2 S1 => post r2 S1)
  | _, _ => False
def wp_X_collect (W E : Nat) (xs : List Int32) (S : GS) (post : Int32 → GS → Prop) : Prop := ∀ V : Nat → GS → List Int32 → Prop, (∀ h S xs, sp_X_collect W E post V h S xs → V h S xs) → V 0 S xs
def vh_X_collect (o : Nat → Nat) (G : GS → Nat → List (Nat × Value) → List Value → Prop) (h : Nat) (S : GS) (xs : List Int32) : Prop := match h, xs with
  | 0, [] => G S 0 [(0, .ref (o 0))] []
  | _, _ => True
set_option maxHeartbeats 4000000 in
set_option maxRecDepth 100000 in
theorem wk_X_collect_0 {l : Launch} {dC : Nat → ClassId} {dI : Nat → Nat → Nat} {cI cZ : ClassId} {o : Nat → Nat} {W E : Nat} {p : Program} {e : Env} {s : State} {m : MethodId} {args : Array Value} {below : List Frame} {meth : Method} {c : Code} {A : Nat → Prop} {post : Int32 → GS → Prop} (C : GC p s m args c cX_collect 1 RX wsA (dC, dI) gx_cl [(cI, .int), (cZ, .boolean)] A) (hr : meth.sig.returnType = (some .int)) (hlocks : meth.locks = false) (S : GS) (hs : sp_X_collect W E post (vh_X_collect o (GV p l e ({ frames := 5, cells := 0, slots := 0, locals := 115 }) s m args below meth c (MQ below (va_Qi post (GB (xw cI cZ o W E) (dC, dI) gx_cl [(cI, .int), (cZ, .boolean)] A) A) args s 0 0 A) 1 (dC, dI) gx_cl A (xw cI cZ o W E))) 0 S []) : GV p l e ({ frames := 5, cells := 0, slots := 0, locals := 115 }) s m args below meth c (MQ below (va_Qi post (GB (xw cI cZ o W E) (dC, dI) gx_cl [(cI, .int), (cZ, .boolean)] A) A) args s 0 0 A) 1 (dC, dI) gx_cl A (xw cI cZ o W E) S 0 [(0, .ref (o 0))] [] := by
  refine gx_aload_n C dX_collect_0 0 rfl rfl ?_
  refine gx_iconst (v := 0) C dX_collect_1 (by decide) ?_
  refine gx_calli (As := [.int 0]) (rest := []) C (mt_X_takeUnreached l dC dI cI cZ o W E _ _ _ hs) (gx_cwV C 1 ln_X_104 im_X_takeUnreached se_X_takeUnreached in_CountedObjects cd_X_takeUnreached rfl rfl (by decide +kernel) ⟨Nat.le_of_ble_eq_true rfl, Nat.le_of_ble_eq_true rfl⟩) xo_this rfl (Nat.le_of_ble_eq_true rfl) dX_collect_2 (fun S1 => xw_ad _ S1) rfl (fun r2 S1 hs => ?_)
  exact gx_iret C hr hlocks dX_collect_5 hs
set_option maxHeartbeats 4000000 in
set_option maxRecDepth 100000 in
theorem mt_X_collect (l : Launch) (dC : Nat → ClassId) (dI : Nat → Nat → Nat) (cI cZ : ClassId) (o : Nat → Nat) (W E : Nat) (S : GS) (post : Int32 → GS → Prop) (h : wp_X_collect W E [] S post) : MetI l yX_collect (Cond.code yX_collect cX_collect 1 (some .int) :: wsA) ({ frames := 5, cells := 0, slots := 0, locals := 115 }) (dC, dI) gx_cl [(cI, .int), (cZ, .boolean)] (xw cI cZ o W E) [.ref (o 0)] S post := by
  refine gx_metI (by decide) wsA_good (Nat.le_of_ble_eq_true rfl) ?_
  intro p e s m args below meth c A C hr hlocks
  refine h (vh_X_collect o (GV p l e ({ frames := 5, cells := 0, slots := 0, locals := 115 }) s m args below meth c (MQ below (va_Qi post (GB (xw cI cZ o W E) (dC, dI) gx_cl [(cI, .int), (cZ, .boolean)] A) A) args s 0 0 A) 1 (dC, dI) gx_cl A (xw cI cZ o W E))) (fun h S xs hs => ?_)
  unfold sp_X_collect at hs
  split at hs
  · exact wk_X_collect_0 C hr hlocks _ hs
  · exact hs.elim
/-- CountedObjects.dropReference(II)V: a step from head to head -/
def sp_X_dropReference (W E : Nat) (RC : List Int32 → GS → (GS → Prop) → Prop) (post : GS → Prop) (V : Nat → GS → List Int32 → Prop) (h : Nat) (S : GS) (xs : List Int32) : Prop := match h, xs with
  | 0, [v1, v2] => wp_X_isObject W E [v1] S (fun r2 S1 => ((r2 = 0 → post S1) ∧ (¬ r2 = 0 → (vp_in (v1 / 2) (E + 1) ∧ ((¬ (S1 2 (v1 / 2).toNatClampNeg) = 7 → (vp_in (v1 / 2) (E + 1) ∧ (vp_in (v1 / 2) (E + 1) ∧ ∀ S3 : GS, S3 = gx_set 2 (v1 / 2).toNatClampNeg ((S1 2 (v1 / 2).toNatClampNeg) - 1) S1 → (vp_in (v1 / 2) (E + 1) ∧ ((¬ (S3 2 (v1 / 2).toNatClampNeg) = 0 → post S3) ∧ ((S3 2 (v1 / 2).toNatClampNeg) = 0 → RC [v1 / 2, v2] S3 (fun S4 => post S4))))))) ∧ ((S1 2 (v1 / 2).toNatClampNeg) = 7 → post S1))))))
  | _, _ => False
def vh_X_dropReference (o : Nat → Nat) (G : GS → Nat → List (Nat × Value) → List Value → Prop) (h : Nat) (S : GS) (xs : List Int32) : Prop := match h, xs with
  | 0, [v1, v2] => G S 0 [(0, .ref (o 0)), (1, .int v1), (2, .int v2)] []
  | _, _ => True
set_option maxHeartbeats 4000000 in
set_option maxRecDepth 100000 in
theorem wk_X_dropReference_0 {l : Launch} {dC : Nat → ClassId} {dI : Nat → Nat → Nat} {cI cZ : ClassId} {o : Nat → Nat} {W E : Nat} {p : Program} {e : Env} {s : State} {m : MethodId} {args : Array Value} {below : List Frame} {meth : Method} {c : Code} {A : Nat → Prop} {post : GS → Prop} {d : Nat} {RC : List Int32 → GS → (GS → Prop) → Prop} (hRC : ∀ (a b : Int32) (S : GS) (post : GS → Prop), RC [a, b] S post → MetV l yX_letGo (Cond.code yX_letGo cX_letGo 5 none :: wsA) (rmdl d) (dC, dI) gx_cl [(cI, .int), (cZ, .boolean)] (xw cI cZ o W E) [.ref (o 0), .int a, .int b] S post) (C : GC p s m args c cX_dropReference 3 RX wsA (dC, dI) gx_cl [(cI, .int), (cZ, .boolean)] A) (hr : meth.sig.returnType = none) (hlocks : meth.locks = false) (S : GS) (v1 : Int32) (v2 : Int32) (hs : sp_X_dropReference W E RC post (vh_X_dropReference o (GV p l e (rmdl (d + 1)) s m args below meth c (MQ below (va_Qv post (GB (xw cI cZ o W E) (dC, dI) gx_cl [(cI, .int), (cZ, .boolean)] A) A) args s 0 0 A) 3 (dC, dI) gx_cl A (xw cI cZ o W E))) 0 S [v1, v2]) : GV p l e (rmdl (d + 1)) s m args below meth c (MQ below (va_Qv post (GB (xw cI cZ o W E) (dC, dI) gx_cl [(cI, .int), (cZ, .boolean)] A) A) args s 0 0 A) 3 (dC, dI) gx_cl A (xw cI cZ o W E) S 0 [(0, .ref (o 0)), (1, .int v1), (2, .int v2)] [] := by
  refine gx_aload_n C dX_dropReference_0 0 rfl rfl ?_
  refine gx_iload_n C dX_dropReference_1 1 rfl rfl ?_
  refine gx_calli (As := [.int v1]) (rest := []) C (mt_X_isObject l dC dI cI cZ o W E _ _ _ hs) (gx_cwV C 1 ln_X_87 im_X_isObject se_X_isObject in_CountedObjects cd_X_isObject rfl rfl (by decide +kernel) ⟨by show 1 + 1 ≤ d + 1 + 4; omega, by show 8 + (2 + 11) + 21 ≤ 24 * (d + 1) + 200; omega⟩) xo_this rfl (Nat.le_of_ble_eq_true rfl) dX_dropReference_2 (fun S1 => xw_ad _ S1) rfl (fun r2 S1 hs => ?_)
  obtain ⟨ht, hf⟩ := hs
  refine gx_if_eq C dX_dropReference_5 21 rfl (fun hc => ?_) (fun hc => ?_)
  · have hs := ht hc
    exact gx_vret C hr hlocks dX_dropReference_21 hs
  · have hs := hf hc
    refine gx_aload_n C dX_dropReference_8 0 rfl rfl ?_
    refine gx_get C xo_this hi_X 2 (by decide) fl_X_25 rfl dX_dropReference_9 ?_
    refine gx_iload_n C dX_dropReference_12 1 rfl rfl ?_
    refine gx_iconst (v := 2) C dX_dropReference_13 (by decide) ?_
    refine gx_idiv C dX_dropReference_14 (by decide) ?_
    obtain ⟨hin, hs⟩ := hs
    refine gx_iald C xa_counts hin dX_dropReference_15 ?_
    refine gx_bipush (v := 7) C dX_dropReference_16 (by decide) ?_
    obtain ⟨ht, hf⟩ := hs
    refine gx_icmp_ne C dX_dropReference_18 22 rfl (fun hc => ?_) (fun hc => ?_)
    · have hs := ht hc
      refine gx_aload_n C dX_dropReference_22 0 rfl rfl ?_
      refine gx_get C xo_this hi_X 2 (by decide) fl_X_25 rfl dX_dropReference_23 ?_
      refine gx_iload_n C dX_dropReference_26 1 rfl rfl ?_
      refine gx_iconst (v := 2) C dX_dropReference_27 (by decide) ?_
      refine gx_idiv C dX_dropReference_28 (by decide) ?_
      refine gx_dup2 C dX_dropReference_29 rfl rfl ?_
      obtain ⟨hin, hs⟩ := hs
      refine gx_iald C xa_counts hin dX_dropReference_30 ?_
      refine gx_iconst (v := 1) C dX_dropReference_31 (by decide) ?_
      refine gx_isub C dX_dropReference_32 ?_
      obtain ⟨hin, hs⟩ := hs
      refine gx_iast C xa_counts hin dX_dropReference_33 (fun S3 eS3 => ?_)
      replace hs := hs S3 eS3
      refine gx_aload_n C dX_dropReference_34 0 rfl rfl ?_
      refine gx_get C xo_this hi_X 2 (by decide) fl_X_25 rfl dX_dropReference_35 ?_
      refine gx_iload_n C dX_dropReference_38 1 rfl rfl ?_
      refine gx_iconst (v := 2) C dX_dropReference_39 (by decide) ?_
      refine gx_idiv C dX_dropReference_40 (by decide) ?_
      obtain ⟨hin, hs⟩ := hs
      refine gx_iald C xa_counts hin dX_dropReference_41 ?_
      obtain ⟨ht, hf⟩ := hs
      refine gx_if_ne C dX_dropReference_42 53 rfl (fun hc => ?_) (fun hc => ?_)
      · have hs := ht hc
        exact gx_vret C hr hlocks dX_dropReference_53 hs
      · have hs := hf hc
        refine gx_aload_n C dX_dropReference_45 0 rfl rfl ?_
        refine gx_iload_n C dX_dropReference_46 1 rfl rfl ?_
        refine gx_iconst (v := 2) C dX_dropReference_47 (by decide) ?_
        refine gx_idiv C dX_dropReference_48 (by decide) ?_
        refine gx_iload_n C dX_dropReference_49 2 rfl rfl ?_
        refine gx_callv (As := [.int (v1 / 2), .int v2]) (rest := []) C (hRC _ _ _ _ hs) (gx_cwV C 2 ln_X_123 im_X_letGo se_X_letGo in_CountedObjects cd_X_letGo rfl rfl (by decide +kernel) ⟨by show d + 4 + 1 ≤ d + 1 + 4; omega, by show 8 + (5 + 11) + (24 * d + 200) ≤ 24 * (d + 1) + 200; omega⟩) xo_this rfl (Nat.le_of_ble_eq_true rfl) dX_dropReference_50 (fun S1 => xw_ad _ S1) rfl (fun S4 hs => ?_)
        exact gx_vret C hr hlocks dX_dropReference_53 hs
    · have hs := hf hc
      exact gx_vret C hr hlocks dX_dropReference_21 hs
/-- CountedObjects.letGo(II)V: a step from head to head -/
def sp_X_letGo (W E : Nat) (RC : List Int32 → GS → (GS → Prop) → Prop) (post : GS → Prop) (V : Nat → GS → List Int32 → Prop) (h : Nat) (S : GS) (xs : List Int32) : Prop := match h, xs with
  | 0, [v1, v2] => ((v2 < 40 → (vp_in v1 (E + 1) ∧ wp_X_wordsOf W E [v1] S (fun r2 S1 => ∀ y3 : Int32, y3 = (S 1 (v1).toNatClampNeg) + r2 → (vp_in v1 (E + 1) ∧ ∀ y4 : Int32, y4 = (S1 1 (v1).toNatClampNeg) + 1 → V 30 S1 [v1, v2, y3, y4])))) ∧ (¬ v2 < 40 → post S))
  | 30, [v1, v2, v3, v4] => ((v3 ≤ v4 → wp_X_freeEntry W E [v1] S (fun S1 => post S1)) ∧ (¬ v3 ≤ v4 → (vp_in v4 W ∧ RC [S 0 (v4).toNatClampNeg, v2 + 1] S (fun S3 => (∀ y5 : Int32, y5 = v4 + 1 → V 30 S3 [v1, v2, v3, y5])))))
  | _, _ => False
def vh_X_letGo (o : Nat → Nat) (G : GS → Nat → List (Nat × Value) → List Value → Prop) (h : Nat) (S : GS) (xs : List Int32) : Prop := match h, xs with
  | 0, [v1, v2] => G S 0 [(0, .ref (o 0)), (1, .int v1), (2, .int v2)] []
  | 30, [v1, v2, v3, v4] => G S 30 [(0, .ref (o 0)), (1, .int v1), (2, .int v2), (3, .int v3), (4, .int v4)] []
  | _, _ => True
set_option maxHeartbeats 4000000 in
set_option maxRecDepth 100000 in
theorem wk_X_letGo_0 {l : Launch} {dC : Nat → ClassId} {dI : Nat → Nat → Nat} {cI cZ : ClassId} {o : Nat → Nat} {W E : Nat} {p : Program} {e : Env} {s : State} {m : MethodId} {args : Array Value} {below : List Frame} {meth : Method} {c : Code} {A : Nat → Prop} {post : GS → Prop} {d : Nat} {RC : List Int32 → GS → (GS → Prop) → Prop} (hRC : ∀ (a b : Int32) (S : GS) (post : GS → Prop), RC [a, b] S post → MetV l yX_dropReference (Cond.code yX_dropReference cX_dropReference 3 none :: wsA) (rmdl d) (dC, dI) gx_cl [(cI, .int), (cZ, .boolean)] (xw cI cZ o W E) [.ref (o 0), .int a, .int b] S post) (C : GC p s m args c cX_letGo 5 RX wsA (dC, dI) gx_cl [(cI, .int), (cZ, .boolean)] A) (hr : meth.sig.returnType = none) (hlocks : meth.locks = false) (S : GS) (v1 : Int32) (v2 : Int32) (hs : sp_X_letGo W E RC post (vh_X_letGo o (GV p l e (rmdl (d + 1)) s m args below meth c (MQ below (va_Qv post (GB (xw cI cZ o W E) (dC, dI) gx_cl [(cI, .int), (cZ, .boolean)] A) A) args s 0 0 A) 5 (dC, dI) gx_cl A (xw cI cZ o W E))) 0 S [v1, v2]) : GV p l e (rmdl (d + 1)) s m args below meth c (MQ below (va_Qv post (GB (xw cI cZ o W E) (dC, dI) gx_cl [(cI, .int), (cZ, .boolean)] A) A) args s 0 0 A) 5 (dC, dI) gx_cl A (xw cI cZ o W E) S 0 [(0, .ref (o 0)), (1, .int v1), (2, .int v2)] [] := by
  refine gx_iload_n C dX_letGo_0 2 rfl rfl ?_
  refine gx_bipush (v := 40) C dX_letGo_1 (by decide) ?_
  obtain ⟨ht, hf⟩ := hs
  refine gx_icmp_lt C dX_letGo_3 7 rfl (fun hc => ?_) (fun hc => ?_)
  · have hs := ht hc
    refine gx_aload_n C dX_letGo_7 0 rfl rfl ?_
    refine gx_get C xo_this hi_X 1 (by decide) fl_X_22 rfl dX_letGo_8 ?_
    refine gx_iload_n C dX_letGo_11 1 rfl rfl ?_
    obtain ⟨hin, hs⟩ := hs
    refine gx_iald C xa_addresses hin dX_letGo_12 ?_
    refine gx_aload_n C dX_letGo_13 0 rfl rfl ?_
    refine gx_iload_n C dX_letGo_14 1 rfl rfl ?_
    refine gx_calli (As := [.int v1]) (rest := [.int (S 1 (v1).toNatClampNeg)]) C (mt_X_wordsOf l dC dI cI cZ o W E _ _ _ hs) (gx_cwV C 1 ln_X_126 im_X_wordsOf se_X_wordsOf in_CountedObjects cd_X_wordsOf rfl rfl (by decide +kernel) ⟨by show 0 + 1 ≤ d + 1 + 4; omega, by show 8 + (2 + 11) + 0 ≤ 24 * (d + 1) + 200; omega⟩) xo_this rfl (Nat.le_of_ble_eq_true rfl) dX_letGo_15 (fun S1 => xw_ad _ S1) rfl (fun r2 S1 hs => ?_)
    refine gx_iadd C dX_letGo_18 ?_
    refine gx_top (fun y3 ey3 => ?_)
    replace hs := hs y3 ey3
    refine gx_istore_n (L' := [(3, .int y3), (0, .ref (o 0)), (1, .int v1), (2, .int v2)]) C dX_letGo_19 rfl (by decide) rfl ?_
    refine gx_aload_n C dX_letGo_20 1 rfl rfl ?_
    refine gx_get C xo_this hi_X 1 (by decide) fl_X_22 rfl dX_letGo_21 ?_
    refine gx_iload_n C dX_letGo_24 2 rfl rfl ?_
    obtain ⟨hin, hs⟩ := hs
    refine gx_iald C xa_addresses hin dX_letGo_25 ?_
    refine gx_iconst (v := 1) C dX_letGo_26 (by decide) ?_
    refine gx_iadd C dX_letGo_27 ?_
    refine gx_top (fun y4 ey4 => ?_)
    replace hs := hs y4 ey4
    refine gx_istore (L' := [(4, .int y4), (3, .int y3), (0, .ref (o 0)), (1, .int v1), (2, .int v2)]) C dX_letGo_28 (by decide) rfl ?_
    exact gx_sub [2, 3, 4, 1, 0] rfl hs
  · have hs := hf hc
    exact gx_vret C hr hlocks dX_letGo_6 hs
set_option maxHeartbeats 4000000 in
set_option maxRecDepth 100000 in
theorem wk_X_letGo_30 {l : Launch} {dC : Nat → ClassId} {dI : Nat → Nat → Nat} {cI cZ : ClassId} {o : Nat → Nat} {W E : Nat} {p : Program} {e : Env} {s : State} {m : MethodId} {args : Array Value} {below : List Frame} {meth : Method} {c : Code} {A : Nat → Prop} {post : GS → Prop} {d : Nat} {RC : List Int32 → GS → (GS → Prop) → Prop} (hRC : ∀ (a b : Int32) (S : GS) (post : GS → Prop), RC [a, b] S post → MetV l yX_dropReference (Cond.code yX_dropReference cX_dropReference 3 none :: wsA) (rmdl d) (dC, dI) gx_cl [(cI, .int), (cZ, .boolean)] (xw cI cZ o W E) [.ref (o 0), .int a, .int b] S post) (C : GC p s m args c cX_letGo 5 RX wsA (dC, dI) gx_cl [(cI, .int), (cZ, .boolean)] A) (hr : meth.sig.returnType = none) (hlocks : meth.locks = false) (S : GS) (v1 : Int32) (v2 : Int32) (v3 : Int32) (v4 : Int32) (hs : sp_X_letGo W E RC post (vh_X_letGo o (GV p l e (rmdl (d + 1)) s m args below meth c (MQ below (va_Qv post (GB (xw cI cZ o W E) (dC, dI) gx_cl [(cI, .int), (cZ, .boolean)] A) A) args s 0 0 A) 5 (dC, dI) gx_cl A (xw cI cZ o W E))) 30 S [v1, v2, v3, v4]) : GV p l e (rmdl (d + 1)) s m args below meth c (MQ below (va_Qv post (GB (xw cI cZ o W E) (dC, dI) gx_cl [(cI, .int), (cZ, .boolean)] A) A) args s 0 0 A) 5 (dC, dI) gx_cl A (xw cI cZ o W E) S 30 [(0, .ref (o 0)), (1, .int v1), (2, .int v2), (3, .int v3), (4, .int v4)] [] := by
  refine gx_iload C dX_letGo_30 4 rfl ?_
  refine gx_iload_n C dX_letGo_32 3 rfl rfl ?_
  obtain ⟨ht, hf⟩ := hs
  refine gx_icmp_ge C dX_letGo_33 56 rfl (fun hc => ?_) (fun hc => ?_)
  · have hs := ht hc
    refine gx_aload_n C dX_letGo_56 0 rfl rfl ?_
    refine gx_iload_n C dX_letGo_57 1 rfl rfl ?_
    refine gx_callv (As := [.int v1]) (rest := []) C (mt_X_freeEntry l dC dI cI cZ o W E _ _ _ hs) (gx_cwV C 1 ln_X_129 im_X_freeEntry se_X_freeEntry in_CountedObjects cd_X_freeEntry rfl rfl (by decide +kernel) ⟨by show 1 + 1 ≤ d + 1 + 4; omega, by show 8 + (2 + 11) + 22 ≤ 24 * (d + 1) + 200; omega⟩) xo_this rfl (Nat.le_of_ble_eq_true rfl) dX_letGo_58 (fun S1 => xw_ad _ S1) rfl (fun S1 hs => ?_)
    exact gx_vret C hr hlocks dX_letGo_61 hs
  · have hs := hf hc
    refine gx_aload_n C dX_letGo_36 0 rfl rfl ?_
    refine gx_aload_n C dX_letGo_37 0 rfl rfl ?_
    refine gx_get C xo_this hi_X 0 (by decide) fl_X_18 rfl dX_letGo_38 ?_
    refine gx_iload C dX_letGo_41 4 rfl ?_
    obtain ⟨hin, hs⟩ := hs
    refine gx_iald C xa_words hin dX_letGo_43 ?_
    refine gx_iload_n C dX_letGo_44 2 rfl rfl ?_
    refine gx_iconst (v := 1) C dX_letGo_45 (by decide) ?_
    refine gx_iadd C dX_letGo_46 ?_
    refine gx_callv (As := [.int (S 0 (v4).toNatClampNeg), .int (v2 + 1)]) (rest := []) C (hRC _ _ _ _ hs) (gx_cwV C 2 ln_X_100 im_X_dropReference se_X_dropReference in_CountedObjects cd_X_dropReference rfl rfl (by decide +kernel) ⟨by show d + 4 + 1 ≤ d + 1 + 4; omega, by show 8 + (3 + 11) + (24 * d + 200) ≤ 24 * (d + 1) + 200; omega⟩) xo_this rfl (Nat.le_of_ble_eq_true rfl) dX_letGo_47 (fun S1 => xw_ad _ S1) rfl (fun S3 hs => ?_)
    refine gx_iinc (v0 := 1) (f := fun v => [(4, .int v), (0, .ref (o 0)), (1, .int v1), (2, .int v2), (3, .int v3)]) C dX_letGo_50 4 rfl (by decide) (by decide) (fun _ => rfl) (fun y5 ey5 => ?_)
    replace hs := hs y5 ey5
    refine gx_goto C dX_letGo_53 30 rfl ?_
    exact gx_sub [1, 2, 3, 4, 0] rfl hs
def wp_X_dl (W E : Nat) : Nat → Bool → List Int32 → GS → (GS → Prop) → Prop
  | 0, _, _, _, _ => False
  | d + 1, true, xs, S, post => ∀ V : Nat → GS → List Int32 → Prop, (∀ h S xs, sp_X_dropReference W E (wp_X_dl W E d false) post V h S xs → V h S xs) → V 0 S xs
  | d + 1, false, xs, S, post => ∀ V : Nat → GS → List Int32 → Prop, (∀ h S xs, sp_X_letGo W E (wp_X_dl W E d true) post V h S xs → V h S xs) → V 0 S xs
set_option maxHeartbeats 4000000 in
set_option maxRecDepth 100000 in
theorem mt_X_dl (l : Launch) (dC : Nat → ClassId) (dI : Nat → Nat → Nat) (cI cZ : ClassId) (o : Nat → Nat) (W E : Nat) : ∀ d : Nat, (∀ (v1 v2 : Int32) (S : GS) (post : GS → Prop), wp_X_dl W E d true [v1, v2] S post → MetV l yX_dropReference (Cond.code yX_dropReference cX_dropReference 3 none :: wsA) (rmdl d) (dC, dI) gx_cl [(cI, .int), (cZ, .boolean)] (xw cI cZ o W E) [.ref (o 0), .int v1, .int v2] S post) ∧ (∀ (v1 v2 : Int32) (S : GS) (post : GS → Prop), wp_X_dl W E d false [v1, v2] S post → MetV l yX_letGo (Cond.code yX_letGo cX_letGo 5 none :: wsA) (rmdl d) (dC, dI) gx_cl [(cI, .int), (cZ, .boolean)] (xw cI cZ o W E) [.ref (o 0), .int v1, .int v2] S post) := by
  intro d
  induction d with
  | zero => exact ⟨fun _ _ _ _ h => h.elim, fun _ _ _ _ h => h.elim⟩
  | succ d ih =>
    refine ⟨fun v1 v2 S post h => ?_, fun v1 v2 S post h => ?_⟩
    · refine gx_metV (by decide) wsA_good (Nat.le_of_ble_eq_true rfl) ?_
      intro p e s m args below meth c A C hr hlocks
      refine h (vh_X_dropReference o (GV p l e (rmdl (d + 1)) s m args below meth c (MQ below (va_Qv post (GB (xw cI cZ o W E) (dC, dI) gx_cl [(cI, .int), (cZ, .boolean)] A) A) args s 0 0 A) 3 (dC, dI) gx_cl A (xw cI cZ o W E))) (fun h S xs hs => ?_)
      unfold sp_X_dropReference at hs
      split at hs
      · exact wk_X_dropReference_0 ih.2 C hr hlocks _ _ _ hs
      · exact hs.elim
    · refine gx_metV (by decide) wsA_good (Nat.le_of_ble_eq_true rfl) ?_
      intro p e s m args below meth c A C hr hlocks
      refine h (vh_X_letGo o (GV p l e (rmdl (d + 1)) s m args below meth c (MQ below (va_Qv post (GB (xw cI cZ o W E) (dC, dI) gx_cl [(cI, .int), (cZ, .boolean)] A) A) args s 0 0 A) 5 (dC, dI) gx_cl A (xw cI cZ o W E))) (fun h S xs hs => ?_)
      unfold sp_X_letGo at hs
      split at hs
      · exact wk_X_letGo_0 ih.1 C hr hlocks _ _ _ hs
      · exact wk_X_letGo_30 ih.1 C hr hlocks _ _ _ _ _ hs
      · exact hs.elim
/-- CountedObjects.replaceRegister(II)I: a step from head to head -/
def sp_X_replaceRegister (W E : Nat) (post : Int32 → GS → Prop) (V : Nat → GS → List Int32 → Prop) (h : Nat) (S : GS) (xs : List Int32) : Prop := match h, xs with
  | 0, [v1, v2] => (vp_in v1 8 ∧ ∀ y1 : Int32, y1 = S 3 (v1).toNatClampNeg → wp_X_addReference W E [v2] S (fun S2 => (vp_in v1 8 ∧ ∀ S4 : GS, S4 = gx_set 3 (v1).toNatClampNeg v2 S2 → wp_X_dl W E 90 true [y1, 0] S4 (fun S5 => post y1 S5))))
  | _, _ => False
def wp_X_replaceRegister (W E : Nat) (xs : List Int32) (S : GS) (post : Int32 → GS → Prop) : Prop := ∀ V : Nat → GS → List Int32 → Prop, (∀ h S xs, sp_X_replaceRegister W E post V h S xs → V h S xs) → V 0 S xs
def vh_X_replaceRegister (o : Nat → Nat) (G : GS → Nat → List (Nat × Value) → List Value → Prop) (h : Nat) (S : GS) (xs : List Int32) : Prop := match h, xs with
  | 0, [v1, v2] => G S 0 [(0, .ref (o 0)), (1, .int v1), (2, .int v2)] []
  | _, _ => True
set_option maxHeartbeats 4000000 in
set_option maxRecDepth 100000 in
theorem wk_X_replaceRegister_0 {l : Launch} {dC : Nat → ClassId} {dI : Nat → Nat → Nat} {cI cZ : ClassId} {o : Nat → Nat} {W E : Nat} {p : Program} {e : Env} {s : State} {m : MethodId} {args : Array Value} {below : List Frame} {meth : Method} {c : Code} {A : Nat → Prop} {post : Int32 → GS → Prop} (C : GC p s m args c cX_replaceRegister 4 RX wsA (dC, dI) gx_cl [(cI, .int), (cZ, .boolean)] A) (hr : meth.sig.returnType = (some .int)) (hlocks : meth.locks = false) (S : GS) (v1 : Int32) (v2 : Int32) (hs : sp_X_replaceRegister W E post (vh_X_replaceRegister o (GV p l e ({ frames := 95, cells := 0, slots := 0, locals := 2382 }) s m args below meth c (MQ below (va_Qi post (GB (xw cI cZ o W E) (dC, dI) gx_cl [(cI, .int), (cZ, .boolean)] A) A) args s 0 0 A) 4 (dC, dI) gx_cl A (xw cI cZ o W E))) 0 S [v1, v2]) : GV p l e ({ frames := 95, cells := 0, slots := 0, locals := 2382 }) s m args below meth c (MQ below (va_Qi post (GB (xw cI cZ o W E) (dC, dI) gx_cl [(cI, .int), (cZ, .boolean)] A) A) args s 0 0 A) 4 (dC, dI) gx_cl A (xw cI cZ o W E) S 0 [(0, .ref (o 0)), (1, .int v1), (2, .int v2)] [] := by
  refine gx_aload_n C dX_replaceRegister_0 0 rfl rfl ?_
  refine gx_get C xo_this hi_X 3 (by decide) fl_X_28 rfl dX_replaceRegister_1 ?_
  refine gx_iload_n C dX_replaceRegister_4 1 rfl rfl ?_
  obtain ⟨hin, hs⟩ := hs
  refine gx_iald C xa_registers hin dX_replaceRegister_5 ?_
  refine gx_top (fun y1 ey1 => ?_)
  replace hs := hs y1 ey1
  refine gx_istore_n (L' := [(3, .int y1), (0, .ref (o 0)), (1, .int v1), (2, .int v2)]) C dX_replaceRegister_6 rfl (by decide) rfl ?_
  refine gx_aload_n C dX_replaceRegister_7 1 rfl rfl ?_
  refine gx_iload_n C dX_replaceRegister_8 3 rfl rfl ?_
  refine gx_callv (As := [.int v2]) (rest := []) C (mt_X_addReference l dC dI cI cZ o W E _ _ _ hs) (gx_cwV C 1 ln_X_97 im_X_addReference se_X_addReference in_CountedObjects cd_X_addReference rfl rfl (by decide +kernel) ⟨Nat.le_of_ble_eq_true rfl, Nat.le_of_ble_eq_true rfl⟩) xo_this rfl (Nat.le_of_ble_eq_true rfl) dX_replaceRegister_9 (fun S1 => xw_ad _ S1) rfl (fun S2 hs => ?_)
  refine gx_aload_n C dX_replaceRegister_12 1 rfl rfl ?_
  refine gx_get C xo_this hi_X 3 (by decide) fl_X_28 rfl dX_replaceRegister_13 ?_
  refine gx_iload_n C dX_replaceRegister_16 2 rfl rfl ?_
  refine gx_iload_n C dX_replaceRegister_17 3 rfl rfl ?_
  obtain ⟨hin, hs⟩ := hs
  refine gx_iast C xa_registers hin dX_replaceRegister_18 (fun S4 eS4 => ?_)
  replace hs := hs S4 eS4
  refine gx_aload_n C dX_replaceRegister_19 1 rfl rfl ?_
  refine gx_iload_n C dX_replaceRegister_20 0 rfl rfl ?_
  refine gx_iconst (v := 0) C dX_replaceRegister_21 (by decide) ?_
  refine gx_callv (As := [.int y1, .int 0]) (rest := []) C ((mt_X_dl l dC dI cI cZ o W E 90).1 _ _ _ _ hs) (gx_cwV C 2 ln_X_100 im_X_dropReference se_X_dropReference in_CountedObjects cd_X_dropReference rfl rfl (by decide +kernel) ⟨Nat.le_of_ble_eq_true rfl, Nat.le_of_ble_eq_true rfl⟩) xo_this rfl (Nat.le_of_ble_eq_true rfl) dX_replaceRegister_22 (fun S1 => xw_ad _ S1) rfl (fun S5 hs => ?_)
  refine gx_iload_n C dX_replaceRegister_25 0 rfl rfl ?_
  exact gx_iret C hr hlocks dX_replaceRegister_26 hs
set_option maxHeartbeats 4000000 in
set_option maxRecDepth 100000 in
theorem mt_X_replaceRegister (l : Launch) (dC : Nat → ClassId) (dI : Nat → Nat → Nat) (cI cZ : ClassId) (o : Nat → Nat) (W E : Nat) (v1 : Int32) (v2 : Int32) (S : GS) (post : Int32 → GS → Prop) (h : wp_X_replaceRegister W E [v1, v2] S post) : MetI l yX_replaceRegister (Cond.code yX_replaceRegister cX_replaceRegister 4 (some .int) :: wsA) ({ frames := 95, cells := 0, slots := 0, locals := 2382 }) (dC, dI) gx_cl [(cI, .int), (cZ, .boolean)] (xw cI cZ o W E) [.ref (o 0), .int v1, .int v2] S post := by
  refine gx_metI (by decide) wsA_good (Nat.le_of_ble_eq_true rfl) ?_
  intro p e s m args below meth c A C hr hlocks
  refine h (vh_X_replaceRegister o (GV p l e ({ frames := 95, cells := 0, slots := 0, locals := 2382 }) s m args below meth c (MQ below (va_Qi post (GB (xw cI cZ o W E) (dC, dI) gx_cl [(cI, .int), (cZ, .boolean)] A) A) args s 0 0 A) 4 (dC, dI) gx_cl A (xw cI cZ o W E))) (fun h S xs hs => ?_)
  unfold sp_X_replaceRegister at hs
  split at hs
  · exact wk_X_replaceRegister_0 C hr hlocks _ _ _ hs
  · exact hs.elim
