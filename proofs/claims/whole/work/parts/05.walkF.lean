/-- CountedObjects$FreeChunks.add(II)V: a step from head to head -/
def sp_F_add (W E : Nat) (post : GS → Prop) (V : Nat → GS → List Int32 → Prop) (h : Nat) (S : GS) (xs : List Int32) : Prop := match h, xs with
  | 0, [v1, v2] => (vp_in (S 100 0) W ∧ ∀ S1 : GS, S1 = gx_set 6 (S 100 0).toNatClampNeg v1 S → (vp_in (S1 100 0) W ∧ ∀ S2 : GS, S2 = gx_set 7 (S1 100 0).toNatClampNeg v2 S1 → (∀ S3 : GS, S3 = gx_set 100 0 ((S2 100 0) + 1) S2 → post S3)))
  | _, _ => False
def wp_F_add (W E : Nat) (xs : List Int32) (S : GS) (post : GS → Prop) : Prop := ∀ V : Nat → GS → List Int32 → Prop, (∀ h S xs, sp_F_add W E post V h S xs → V h S xs) → V 0 S xs
def vh_F_add (o : Nat → Nat) (G : GS → Nat → List (Nat × Value) → List Value → Prop) (h : Nat) (S : GS) (xs : List Int32) : Prop := match h, xs with
  | 0, [v1, v2] => G S 0 [(0, .ref (o 5)), (1, .int v1), (2, .int v2)] []
  | _, _ => True
set_option maxHeartbeats 4000000 in
set_option maxRecDepth 100000 in
theorem wk_F_add_0 {l : Launch} {dC : Nat → ClassId} {dI : Nat → Nat → Nat} {cI cZ : ClassId} {o : Nat → Nat} {W E : Nat} {p : Program} {e : Env} {s : State} {m : MethodId} {args : Array Value} {below : List Frame} {meth : Method} {c : Code} {A : Nat → Prop} {post : GS → Prop} (C : GC p s m args c cF_add 3 RF wsA (dC, dI) gx_cl [(cI, .int), (cZ, .boolean)] A) (hr : meth.sig.returnType = none) (hlocks : meth.locks = false) (S : GS) (v1 : Int32) (v2 : Int32) (hs : sp_F_add W E post (vh_F_add o (GV p l e { frames := 0, cells := 0, slots := 0, locals := 0 } s m args below meth c (MQ below (va_Qv post (GB (xw cI cZ o W E) (dC, dI) gx_cl [(cI, .int), (cZ, .boolean)] A) A) args s 0 0 A) 3 (dC, dI) gx_cl A (xw cI cZ o W E))) 0 S [v1, v2]) : GV p l e { frames := 0, cells := 0, slots := 0, locals := 0 } s m args below meth c (MQ below (va_Qv post (GB (xw cI cZ o W E) (dC, dI) gx_cl [(cI, .int), (cZ, .boolean)] A) A) args s 0 0 A) 3 (dC, dI) gx_cl A (xw cI cZ o W E) S 0 [(0, .ref (o 5)), (1, .int v1), (2, .int v2)] [] := by
  refine gx_aload_n C dF_add_0 0 rfl rfl ?_
  refine gx_get C xo_fc hi_F 0 (by decide) fl_F_9 rfl dF_add_1 ?_
  refine gx_aload_n C dF_add_4 0 rfl rfl ?_
  refine gx_get C xo_fc hi_F 2 (by decide) fl_F_18 rfl dF_add_5 ?_
  refine gx_iload_n C dF_add_8 1 rfl rfl ?_
  obtain ⟨hin, hs⟩ := hs
  refine gx_iast C xa_starts hin dF_add_9 (fun S1 eS1 => ?_)
  replace hs := hs S1 eS1
  refine gx_aload_n C dF_add_10 0 rfl rfl ?_
  refine gx_get C xo_fc hi_F 1 (by decide) fl_F_15 rfl dF_add_11 ?_
  refine gx_aload_n C dF_add_14 0 rfl rfl ?_
  refine gx_get C xo_fc hi_F 2 (by decide) fl_F_18 rfl dF_add_15 ?_
  refine gx_iload_n C dF_add_18 2 rfl rfl ?_
  obtain ⟨hin, hs⟩ := hs
  refine gx_iast C xa_sizes hin dF_add_19 (fun S2 eS2 => ?_)
  replace hs := hs S2 eS2
  refine gx_aload_n C dF_add_20 0 rfl rfl ?_
  refine gx_dup C dF_add_21 rfl ?_
  refine gx_get C xo_fc hi_F 2 (by decide) fl_F_18 rfl dF_add_22 ?_
  refine gx_iconst (v := 1) C dF_add_25 (by decide) ?_
  refine gx_iadd C dF_add_26 ?_
  refine gx_put C xo_fc hi_F tyF tyF_ok nmF 2 (by decide) fl_F_18 rfl (by decide +kernel) (Nat.le_of_ble_eq_true rfl) (xp_held _ _) dF_add_27 (fun S3 eS3 => ?_)
  replace hs := hs S3 eS3
  exact gx_vret C hr hlocks dF_add_30 hs
set_option maxHeartbeats 4000000 in
set_option maxRecDepth 100000 in
theorem mt_F_add (l : Launch) (dC : Nat → ClassId) (dI : Nat → Nat → Nat) (cI cZ : ClassId) (o : Nat → Nat) (W E : Nat) (v1 : Int32) (v2 : Int32) (S : GS) (post : GS → Prop) (h : wp_F_add W E [v1, v2] S post) : MetV l yF_add (Cond.code yF_add cF_add 3 none :: wsA) ({ frames := 0, cells := 0, slots := 0, locals := 0 }) (dC, dI) gx_cl [(cI, .int), (cZ, .boolean)] (xw cI cZ o W E) [.ref (o 5), .int v1, .int v2] S post := by
  refine gx_metV (by decide) wsA_good (Nat.le_of_ble_eq_true rfl) ?_
  intro p e s m args below meth c A C hr hlocks
  refine h (vh_F_add o (GV p l e { frames := 0, cells := 0, slots := 0, locals := 0 } s m args below meth c (MQ below (va_Qv post (GB (xw cI cZ o W E) (dC, dI) gx_cl [(cI, .int), (cZ, .boolean)] A) A) args s 0 0 A) 3 (dC, dI) gx_cl A (xw cI cZ o W E))) (fun h S xs hs => ?_)
  unfold sp_F_add at hs
  split at hs
  · exact wk_F_add_0 C hr hlocks _ _ _ hs
  · exact hs.elim
/-- CountedObjects$FreeChunks.clear()V: a step from head to head -/
def sp_F_clear (W E : Nat) (post : GS → Prop) (V : Nat → GS → List Int32 → Prop) (h : Nat) (S : GS) (xs : List Int32) : Prop := match h, xs with
  | 0, [] => (∀ S1 : GS, S1 = gx_set 100 0 0 S → post S1)
  | _, _ => False
def wp_F_clear (W E : Nat) (xs : List Int32) (S : GS) (post : GS → Prop) : Prop := ∀ V : Nat → GS → List Int32 → Prop, (∀ h S xs, sp_F_clear W E post V h S xs → V h S xs) → V 0 S xs
def vh_F_clear (o : Nat → Nat) (G : GS → Nat → List (Nat × Value) → List Value → Prop) (h : Nat) (S : GS) (xs : List Int32) : Prop := match h, xs with
  | 0, [] => G S 0 [(0, .ref (o 5))] []
  | _, _ => True
set_option maxHeartbeats 4000000 in
set_option maxRecDepth 100000 in
theorem wk_F_clear_0 {l : Launch} {dC : Nat → ClassId} {dI : Nat → Nat → Nat} {cI cZ : ClassId} {o : Nat → Nat} {W E : Nat} {p : Program} {e : Env} {s : State} {m : MethodId} {args : Array Value} {below : List Frame} {meth : Method} {c : Code} {A : Nat → Prop} {post : GS → Prop} (C : GC p s m args c cF_clear 1 RF wsA (dC, dI) gx_cl [(cI, .int), (cZ, .boolean)] A) (hr : meth.sig.returnType = none) (hlocks : meth.locks = false) (S : GS) (hs : sp_F_clear W E post (vh_F_clear o (GV p l e { frames := 0, cells := 0, slots := 0, locals := 0 } s m args below meth c (MQ below (va_Qv post (GB (xw cI cZ o W E) (dC, dI) gx_cl [(cI, .int), (cZ, .boolean)] A) A) args s 0 0 A) 1 (dC, dI) gx_cl A (xw cI cZ o W E))) 0 S []) : GV p l e { frames := 0, cells := 0, slots := 0, locals := 0 } s m args below meth c (MQ below (va_Qv post (GB (xw cI cZ o W E) (dC, dI) gx_cl [(cI, .int), (cZ, .boolean)] A) A) args s 0 0 A) 1 (dC, dI) gx_cl A (xw cI cZ o W E) S 0 [(0, .ref (o 5))] [] := by
  refine gx_aload_n C dF_clear_0 0 rfl rfl ?_
  refine gx_iconst (v := 0) C dF_clear_1 (by decide) ?_
  refine gx_put C xo_fc hi_F tyF tyF_ok nmF 2 (by decide) fl_F_18 rfl (by decide +kernel) (Nat.le_of_ble_eq_true rfl) (xp_held _ _) dF_clear_2 (fun S1 eS1 => ?_)
  replace hs := hs S1 eS1
  exact gx_vret C hr hlocks dF_clear_5 hs
set_option maxHeartbeats 4000000 in
set_option maxRecDepth 100000 in
theorem mt_F_clear (l : Launch) (dC : Nat → ClassId) (dI : Nat → Nat → Nat) (cI cZ : ClassId) (o : Nat → Nat) (W E : Nat) (S : GS) (post : GS → Prop) (h : wp_F_clear W E [] S post) : MetV l yF_clear (Cond.code yF_clear cF_clear 1 none :: wsA) ({ frames := 0, cells := 0, slots := 0, locals := 0 }) (dC, dI) gx_cl [(cI, .int), (cZ, .boolean)] (xw cI cZ o W E) [.ref (o 5)] S post := by
  refine gx_metV (by decide) wsA_good (Nat.le_of_ble_eq_true rfl) ?_
  intro p e s m args below meth c A C hr hlocks
  refine h (vh_F_clear o (GV p l e { frames := 0, cells := 0, slots := 0, locals := 0 } s m args below meth c (MQ below (va_Qv post (GB (xw cI cZ o W E) (dC, dI) gx_cl [(cI, .int), (cZ, .boolean)] A) A) args s 0 0 A) 1 (dC, dI) gx_cl A (xw cI cZ o W E))) (fun h S xs hs => ?_)
  unfold sp_F_clear at hs
  split at hs
  · exact wk_F_clear_0 C hr hlocks _ hs
  · exact hs.elim
/-- CountedObjects$FreeChunks.bestFor(I)I: a step from head to head -/
def sp_F_bestFor (W E : Nat) (post : Int32 → GS → Prop) (V : Nat → GS → List Int32 → Prop) (h : Nat) (S : GS) (xs : List Int32) : Prop := match h, xs with
  | 0, [v1] => ∀ y1 : Int32, y1 = (-1) → ∀ y2 : Int32, y2 = (S 100 0) - 1 → V 9 S [v1, y1, y2]
  | 9, [v1, v2, v3] => ((v3 < 0 → post v2 S) ∧ (¬ v3 < 0 → (vp_in v3 W ∧ (((S 7 (v3).toNatClampNeg) < v1 → (∀ y1 : Int32, y1 = v3 + (-1) → V 9 S [v1, v2, y1])) ∧ (¬ (S 7 (v3).toNatClampNeg) < v1 → ((v2 = (-1) → (∀ y2 : Int32, y2 = v3 + (-1) → V 9 S [v1, v3, y2])) ∧ (¬ v2 = (-1) → (vp_in v3 W ∧ (vp_in v2 W ∧ (((S 7 (v2).toNatClampNeg) ≤ (S 7 (v3).toNatClampNeg) → (∀ y3 : Int32, y3 = v3 + (-1) → V 9 S [v1, v2, y3])) ∧ (¬ (S 7 (v2).toNatClampNeg) ≤ (S 7 (v3).toNatClampNeg) → (∀ y4 : Int32, y4 = v3 + (-1) → V 9 S [v1, v3, y4]))))))))))))
  | _, _ => False
def wp_F_bestFor (W E : Nat) (xs : List Int32) (S : GS) (post : Int32 → GS → Prop) : Prop := ∀ V : Nat → GS → List Int32 → Prop, (∀ h S xs, sp_F_bestFor W E post V h S xs → V h S xs) → V 0 S xs
def vh_F_bestFor (o : Nat → Nat) (G : GS → Nat → List (Nat × Value) → List Value → Prop) (h : Nat) (S : GS) (xs : List Int32) : Prop := match h, xs with
  | 0, [v1] => G S 0 [(0, .ref (o 5)), (1, .int v1)] []
  | 9, [v1, v2, v3] => G S 9 [(0, .ref (o 5)), (1, .int v1), (2, .int v2), (3, .int v3)] []
  | _, _ => True
set_option maxHeartbeats 4000000 in
set_option maxRecDepth 100000 in
theorem wk_F_bestFor_0 {l : Launch} {dC : Nat → ClassId} {dI : Nat → Nat → Nat} {cI cZ : ClassId} {o : Nat → Nat} {W E : Nat} {p : Program} {e : Env} {s : State} {m : MethodId} {args : Array Value} {below : List Frame} {meth : Method} {c : Code} {A : Nat → Prop} {post : Int32 → GS → Prop} (C : GC p s m args c cF_bestFor 4 RF wsA (dC, dI) gx_cl [(cI, .int), (cZ, .boolean)] A) (hr : meth.sig.returnType = (some .int)) (hlocks : meth.locks = false) (S : GS) (v1 : Int32) (hs : sp_F_bestFor W E post (vh_F_bestFor o (GV p l e { frames := 0, cells := 0, slots := 0, locals := 0 } s m args below meth c (MQ below (va_Qi post (GB (xw cI cZ o W E) (dC, dI) gx_cl [(cI, .int), (cZ, .boolean)] A) A) args s 0 0 A) 4 (dC, dI) gx_cl A (xw cI cZ o W E))) 0 S [v1]) : GV p l e { frames := 0, cells := 0, slots := 0, locals := 0 } s m args below meth c (MQ below (va_Qi post (GB (xw cI cZ o W E) (dC, dI) gx_cl [(cI, .int), (cZ, .boolean)] A) A) args s 0 0 A) 4 (dC, dI) gx_cl A (xw cI cZ o W E) S 0 [(0, .ref (o 5)), (1, .int v1)] [] := by
  refine gx_iconst (v := (-1)) C dF_bestFor_0 (by decide) ?_
  refine gx_top (fun y1 ey1 => ?_)
  replace hs := hs y1 ey1
  refine gx_istore_n (L' := [(2, .int y1), (0, .ref (o 5)), (1, .int v1)]) C dF_bestFor_1 rfl (by decide) rfl ?_
  refine gx_aload_n C dF_bestFor_2 1 rfl rfl ?_
  refine gx_get C xo_fc hi_F 2 (by decide) fl_F_18 rfl dF_bestFor_3 ?_
  refine gx_iconst (v := 1) C dF_bestFor_6 (by decide) ?_
  refine gx_isub C dF_bestFor_7 ?_
  refine gx_top (fun y2 ey2 => ?_)
  replace hs := hs y2 ey2
  refine gx_istore_n (L' := [(3, .int y2), (2, .int y1), (0, .ref (o 5)), (1, .int v1)]) C dF_bestFor_8 rfl (by decide) rfl ?_
  exact gx_sub [2, 3, 1, 0] rfl hs
set_option maxHeartbeats 4000000 in
set_option maxRecDepth 100000 in
theorem wk_F_bestFor_9 {l : Launch} {dC : Nat → ClassId} {dI : Nat → Nat → Nat} {cI cZ : ClassId} {o : Nat → Nat} {W E : Nat} {p : Program} {e : Env} {s : State} {m : MethodId} {args : Array Value} {below : List Frame} {meth : Method} {c : Code} {A : Nat → Prop} {post : Int32 → GS → Prop} (C : GC p s m args c cF_bestFor 4 RF wsA (dC, dI) gx_cl [(cI, .int), (cZ, .boolean)] A) (hr : meth.sig.returnType = (some .int)) (hlocks : meth.locks = false) (S : GS) (v1 : Int32) (v2 : Int32) (v3 : Int32) (hs : sp_F_bestFor W E post (vh_F_bestFor o (GV p l e { frames := 0, cells := 0, slots := 0, locals := 0 } s m args below meth c (MQ below (va_Qi post (GB (xw cI cZ o W E) (dC, dI) gx_cl [(cI, .int), (cZ, .boolean)] A) A) args s 0 0 A) 4 (dC, dI) gx_cl A (xw cI cZ o W E))) 9 S [v1, v2, v3]) : GV p l e { frames := 0, cells := 0, slots := 0, locals := 0 } s m args below meth c (MQ below (va_Qi post (GB (xw cI cZ o W E) (dC, dI) gx_cl [(cI, .int), (cZ, .boolean)] A) A) args s 0 0 A) 4 (dC, dI) gx_cl A (xw cI cZ o W E) S 9 [(0, .ref (o 5)), (1, .int v1), (2, .int v2), (3, .int v3)] [] := by
  refine gx_iload_n C dF_bestFor_9 3 rfl rfl ?_
  obtain ⟨ht, hf⟩ := hs
  refine gx_if_lt C dF_bestFor_10 51 rfl (fun hc => ?_) (fun hc => ?_)
  · have hs := ht hc
    refine gx_iload_n C dF_bestFor_51 2 rfl rfl ?_
    exact gx_iret C hr hlocks dF_bestFor_52 hs
  · have hs := hf hc
    refine gx_aload_n C dF_bestFor_13 0 rfl rfl ?_
    refine gx_get C xo_fc hi_F 1 (by decide) fl_F_15 rfl dF_bestFor_14 ?_
    refine gx_iload_n C dF_bestFor_17 3 rfl rfl ?_
    obtain ⟨hin, hs⟩ := hs
    refine gx_iald C xa_sizes hin dF_bestFor_18 ?_
    refine gx_iload_n C dF_bestFor_19 1 rfl rfl ?_
    obtain ⟨ht, hf⟩ := hs
    refine gx_icmp_lt C dF_bestFor_20 45 rfl (fun hc => ?_) (fun hc => ?_)
    · have hs := ht hc
      refine gx_iinc (v0 := (-1)) (f := fun v => [(3, .int v), (0, .ref (o 5)), (1, .int v1), (2, .int v2)]) C dF_bestFor_45 3 rfl (by decide) (by decide) (fun _ => rfl) (fun y1 ey1 => ?_)
      replace hs := hs y1 ey1
      refine gx_goto C dF_bestFor_48 9 rfl ?_
      exact gx_sub [1, 2, 3, 0] rfl hs
    · have hs := hf hc
      refine gx_iload_n C dF_bestFor_23 2 rfl rfl ?_
      refine gx_iconst (v := (-1)) C dF_bestFor_24 (by decide) ?_
      obtain ⟨ht, hf⟩ := hs
      refine gx_icmp_eq C dF_bestFor_25 43 rfl (fun hc => ?_) (fun hc => ?_)
      · have hs := ht hc
        refine gx_iload_n C dF_bestFor_43 3 rfl rfl ?_
        refine gx_istore_n (L' := [(2, .int v3), (0, .ref (o 5)), (1, .int v1), (3, .int v3)]) C dF_bestFor_44 rfl (by decide) rfl ?_
        refine gx_iinc (v0 := (-1)) (f := fun v => [(3, .int v), (2, .int v3), (0, .ref (o 5)), (1, .int v1)]) C dF_bestFor_45 3 rfl (by decide) (by decide) (fun _ => rfl) (fun y2 ey2 => ?_)
        replace hs := hs y2 ey2
        refine gx_goto C dF_bestFor_48 9 rfl ?_
        exact gx_sub [2, 3, 1, 0] rfl hs
      · have hs := hf hc
        refine gx_aload_n C dF_bestFor_28 0 rfl rfl ?_
        refine gx_get C xo_fc hi_F 1 (by decide) fl_F_15 rfl dF_bestFor_29 ?_
        refine gx_iload_n C dF_bestFor_32 3 rfl rfl ?_
        obtain ⟨hin, hs⟩ := hs
        refine gx_iald C xa_sizes hin dF_bestFor_33 ?_
        refine gx_aload_n C dF_bestFor_34 0 rfl rfl ?_
        refine gx_get C xo_fc hi_F 1 (by decide) fl_F_15 rfl dF_bestFor_35 ?_
        refine gx_iload_n C dF_bestFor_38 2 rfl rfl ?_
        obtain ⟨hin, hs⟩ := hs
        refine gx_iald C xa_sizes hin dF_bestFor_39 ?_
        obtain ⟨ht, hf⟩ := hs
        refine gx_icmp_ge C dF_bestFor_40 45 rfl (fun hc => ?_) (fun hc => ?_)
        · have hs := ht hc
          refine gx_iinc (v0 := (-1)) (f := fun v => [(3, .int v), (0, .ref (o 5)), (1, .int v1), (2, .int v2)]) C dF_bestFor_45 3 rfl (by decide) (by decide) (fun _ => rfl) (fun y3 ey3 => ?_)
          replace hs := hs y3 ey3
          refine gx_goto C dF_bestFor_48 9 rfl ?_
          exact gx_sub [1, 2, 3, 0] rfl hs
        · have hs := hf hc
          refine gx_iload_n C dF_bestFor_43 3 rfl rfl ?_
          refine gx_istore_n (L' := [(2, .int v3), (0, .ref (o 5)), (1, .int v1), (3, .int v3)]) C dF_bestFor_44 rfl (by decide) rfl ?_
          refine gx_iinc (v0 := (-1)) (f := fun v => [(3, .int v), (2, .int v3), (0, .ref (o 5)), (1, .int v1)]) C dF_bestFor_45 3 rfl (by decide) (by decide) (fun _ => rfl) (fun y4 ey4 => ?_)
          replace hs := hs y4 ey4
          refine gx_goto C dF_bestFor_48 9 rfl ?_
          exact gx_sub [2, 3, 1, 0] rfl hs
set_option maxHeartbeats 4000000 in
set_option maxRecDepth 100000 in
theorem mt_F_bestFor (l : Launch) (dC : Nat → ClassId) (dI : Nat → Nat → Nat) (cI cZ : ClassId) (o : Nat → Nat) (W E : Nat) (v1 : Int32) (S : GS) (post : Int32 → GS → Prop) (h : wp_F_bestFor W E [v1] S post) : MetI l yF_bestFor (Cond.code yF_bestFor cF_bestFor 4 (some .int) :: wsA) ({ frames := 0, cells := 0, slots := 0, locals := 0 }) (dC, dI) gx_cl [(cI, .int), (cZ, .boolean)] (xw cI cZ o W E) [.ref (o 5), .int v1] S post := by
  refine gx_metI (by decide) wsA_good (Nat.le_of_ble_eq_true rfl) ?_
  intro p e s m args below meth c A C hr hlocks
  refine h (vh_F_bestFor o (GV p l e { frames := 0, cells := 0, slots := 0, locals := 0 } s m args below meth c (MQ below (va_Qi post (GB (xw cI cZ o W E) (dC, dI) gx_cl [(cI, .int), (cZ, .boolean)] A) A) args s 0 0 A) 4 (dC, dI) gx_cl A (xw cI cZ o W E))) (fun h S xs hs => ?_)
  unfold sp_F_bestFor at hs
  split at hs
  · exact wk_F_bestFor_0 C hr hlocks _ _ hs
  · exact wk_F_bestFor_9 C hr hlocks _ _ _ _ hs
  · exact hs.elim
/-- CountedObjects$FreeChunks.remove(I)V: a step from head to head -/
def sp_F_remove (W E : Nat) (post : GS → Prop) (V : Nat → GS → List Int32 → Prop) (h : Nat) (S : GS) (xs : List Int32) : Prop := match h, xs with
  | 0, [v1] => (∀ S1 : GS, S1 = gx_set 100 0 ((S 100 0) - 1) S → (¬ (v1 + 1) < 0 ∧ ¬ v1 < 0 ∧ ¬ ((S1 100 0) - v1) < 0 ∧ (v1 + 1).toNatClampNeg + ((S1 100 0) - v1).toNatClampNeg ≤ W ∧ (v1).toNatClampNeg + ((S1 100 0) - v1).toNatClampNeg ≤ W ∧ ∀ S2 : GS, S2 = gx_row 6 (va_cpy (S1 6) (S1 6) (v1 + 1).toNatClampNeg (v1).toNatClampNeg ((S1 100 0) - v1).toNatClampNeg) S1 → (¬ (v1 + 1) < 0 ∧ ¬ v1 < 0 ∧ ¬ ((S2 100 0) - v1) < 0 ∧ (v1 + 1).toNatClampNeg + ((S2 100 0) - v1).toNatClampNeg ≤ W ∧ (v1).toNatClampNeg + ((S2 100 0) - v1).toNatClampNeg ≤ W ∧ ∀ S3 : GS, S3 = gx_row 7 (va_cpy (S2 7) (S2 7) (v1 + 1).toNatClampNeg (v1).toNatClampNeg ((S2 100 0) - v1).toNatClampNeg) S2 → post S3)))
  | _, _ => False
def wp_F_remove (W E : Nat) (xs : List Int32) (S : GS) (post : GS → Prop) : Prop := ∀ V : Nat → GS → List Int32 → Prop, (∀ h S xs, sp_F_remove W E post V h S xs → V h S xs) → V 0 S xs
def vh_F_remove (o : Nat → Nat) (G : GS → Nat → List (Nat × Value) → List Value → Prop) (h : Nat) (S : GS) (xs : List Int32) : Prop := match h, xs with
  | 0, [v1] => G S 0 [(0, .ref (o 5)), (1, .int v1)] []
  | _, _ => True
set_option maxHeartbeats 4000000 in
set_option maxRecDepth 100000 in
theorem wk_F_remove_0 {l : Launch} {dC : Nat → ClassId} {dI : Nat → Nat → Nat} {cI cZ : ClassId} {o : Nat → Nat} {W E : Nat} {p : Program} {e : Env} {s : State} {m : MethodId} {args : Array Value} {below : List Frame} {meth : Method} {c : Code} {A : Nat → Prop} {post : GS → Prop} (C : GC p s m args c cF_remove 2 RF wsA (dC, dI) gx_cl [(cI, .int), (cZ, .boolean)] A) (hr : meth.sig.returnType = none) (hlocks : meth.locks = false) (S : GS) (v1 : Int32) (hs : sp_F_remove W E post (vh_F_remove o (GV p l e { frames := 1, cells := 0, slots := 0, locals := 68 } s m args below meth c (MQ below (va_Qv post (GB (xw cI cZ o W E) (dC, dI) gx_cl [(cI, .int), (cZ, .boolean)] A) A) args s 0 0 A) 2 (dC, dI) gx_cl A (xw cI cZ o W E))) 0 S [v1]) : GV p l e { frames := 1, cells := 0, slots := 0, locals := 68 } s m args below meth c (MQ below (va_Qv post (GB (xw cI cZ o W E) (dC, dI) gx_cl [(cI, .int), (cZ, .boolean)] A) A) args s 0 0 A) 2 (dC, dI) gx_cl A (xw cI cZ o W E) S 0 [(0, .ref (o 5)), (1, .int v1)] [] := by
  refine gx_aload_n C dF_remove_0 0 rfl rfl ?_
  refine gx_dup C dF_remove_1 rfl ?_
  refine gx_get C xo_fc hi_F 2 (by decide) fl_F_18 rfl dF_remove_2 ?_
  refine gx_iconst (v := 1) C dF_remove_5 (by decide) ?_
  refine gx_isub C dF_remove_6 ?_
  refine gx_put C xo_fc hi_F tyF tyF_ok nmF 2 (by decide) fl_F_18 rfl (by decide +kernel) (Nat.le_of_ble_eq_true rfl) (xp_held _ _) dF_remove_7 (fun S1 eS1 => ?_)
  replace hs := hs S1 eS1
  refine gx_aload_n C dF_remove_10 0 rfl rfl ?_
  refine gx_get C xo_fc hi_F 0 (by decide) fl_F_9 rfl dF_remove_11 ?_
  refine gx_iload_n C dF_remove_14 1 rfl rfl ?_
  refine gx_iconst (v := 1) C dF_remove_15 (by decide) ?_
  refine gx_iadd C dF_remove_16 ?_
  refine gx_aload_n C dF_remove_17 0 rfl rfl ?_
  refine gx_get C xo_fc hi_F 0 (by decide) fl_F_9 rfl dF_remove_18 ?_
  refine gx_iload_n C dF_remove_21 1 rfl rfl ?_
  refine gx_aload_n C dF_remove_22 0 rfl rfl ?_
  refine gx_get C xo_fc hi_F 2 (by decide) fl_F_18 rfl dF_remove_23 ?_
  refine gx_iload_n C dF_remove_26 1 rfl rfl ?_
  refine gx_isub C dF_remove_27 ?_
  obtain ⟨h1, h2, h3, h4, h5, hs⟩ := hs
  refine gx_copy C xa_starts ln_F_34 na_copy sm_copy in_java_lang_System h1 h2 h3 h4 h5 (Nat.le_of_ble_eq_true rfl) (Nat.le_of_ble_eq_true rfl) dF_remove_28 (fun S2 eS2 => ?_)
  replace hs := hs S2 eS2
  refine gx_aload_n C dF_remove_31 0 rfl rfl ?_
  refine gx_get C xo_fc hi_F 1 (by decide) fl_F_15 rfl dF_remove_32 ?_
  refine gx_iload_n C dF_remove_35 1 rfl rfl ?_
  refine gx_iconst (v := 1) C dF_remove_36 (by decide) ?_
  refine gx_iadd C dF_remove_37 ?_
  refine gx_aload_n C dF_remove_38 0 rfl rfl ?_
  refine gx_get C xo_fc hi_F 1 (by decide) fl_F_15 rfl dF_remove_39 ?_
  refine gx_iload_n C dF_remove_42 1 rfl rfl ?_
  refine gx_aload_n C dF_remove_43 0 rfl rfl ?_
  refine gx_get C xo_fc hi_F 2 (by decide) fl_F_18 rfl dF_remove_44 ?_
  refine gx_iload_n C dF_remove_47 1 rfl rfl ?_
  refine gx_isub C dF_remove_48 ?_
  obtain ⟨h1, h2, h3, h4, h5, hs⟩ := hs
  refine gx_copy C xa_sizes ln_F_34 na_copy sm_copy in_java_lang_System h1 h2 h3 h4 h5 (Nat.le_of_ble_eq_true rfl) (Nat.le_of_ble_eq_true rfl) dF_remove_49 (fun S3 eS3 => ?_)
  replace hs := hs S3 eS3
  exact gx_vret C hr hlocks dF_remove_52 hs
set_option maxHeartbeats 4000000 in
set_option maxRecDepth 100000 in
theorem mt_F_remove (l : Launch) (dC : Nat → ClassId) (dI : Nat → Nat → Nat) (cI cZ : ClassId) (o : Nat → Nat) (W E : Nat) (v1 : Int32) (S : GS) (post : GS → Prop) (h : wp_F_remove W E [v1] S post) : MetV l yF_remove (Cond.code yF_remove cF_remove 2 none :: wsA) ({ frames := 1, cells := 0, slots := 0, locals := 68 }) (dC, dI) gx_cl [(cI, .int), (cZ, .boolean)] (xw cI cZ o W E) [.ref (o 5), .int v1] S post := by
  refine gx_metV (by decide) wsA_good (Nat.le_of_ble_eq_true rfl) ?_
  intro p e s m args below meth c A C hr hlocks
  refine h (vh_F_remove o (GV p l e { frames := 1, cells := 0, slots := 0, locals := 68 } s m args below meth c (MQ below (va_Qv post (GB (xw cI cZ o W E) (dC, dI) gx_cl [(cI, .int), (cZ, .boolean)] A) A) args s 0 0 A) 2 (dC, dI) gx_cl A (xw cI cZ o W E))) (fun h S xs hs => ?_)
  unfold sp_F_remove at hs
  split at hs
  · exact wk_F_remove_0 C hr hlocks _ _ hs
  · exact hs.elim
/-- CountedObjects$FreeChunks.take(I)I: a step from head to head -/
def sp_F_take (W E : Nat) (post : Int32 → GS → Prop) (V : Nat → GS → List Int32 → Prop) (h : Nat) (S : GS) (xs : List Int32) : Prop := match h, xs with
  | 0, [v1] => wp_F_bestFor W E [v1] S (fun r2 S1 => ((¬ r2 = (-1) → (vp_in r2 W ∧ ∀ y3 : Int32, y3 = S1 6 (r2).toNatClampNeg → (vp_in r2 W ∧ ∀ y4 : Int32, y4 = (S1 7 (r2).toNatClampNeg) - v1 → wp_F_remove W E [r2] S1 (fun S5 => ((y4 ≤ 0 → post y3 S5) ∧ (¬ y4 ≤ 0 → wp_F_add W E [y3 + v1, y4] S5 (fun S7 => post y3 S7))))))) ∧ (r2 = (-1) → post (-1) S1)))
  | _, _ => False
def wp_F_take (W E : Nat) (xs : List Int32) (S : GS) (post : Int32 → GS → Prop) : Prop := ∀ V : Nat → GS → List Int32 → Prop, (∀ h S xs, sp_F_take W E post V h S xs → V h S xs) → V 0 S xs
def vh_F_take (o : Nat → Nat) (G : GS → Nat → List (Nat × Value) → List Value → Prop) (h : Nat) (S : GS) (xs : List Int32) : Prop := match h, xs with
  | 0, [v1] => G S 0 [(0, .ref (o 5)), (1, .int v1)] []
  | _, _ => True
set_option maxHeartbeats 4000000 in
set_option maxRecDepth 100000 in
theorem wk_F_take_0 {l : Launch} {dC : Nat → ClassId} {dI : Nat → Nat → Nat} {cI cZ : ClassId} {o : Nat → Nat} {W E : Nat} {p : Program} {e : Env} {s : State} {m : MethodId} {args : Array Value} {below : List Frame} {meth : Method} {c : Code} {A : Nat → Prop} {post : Int32 → GS → Prop} (C : GC p s m args c cF_take 5 RF wsA (dC, dI) gx_cl [(cI, .int), (cZ, .boolean)] A) (hr : meth.sig.returnType = (some .int)) (hlocks : meth.locks = false) (S : GS) (v1 : Int32) (hs : sp_F_take W E post (vh_F_take o (GV p l e { frames := 2, cells := 0, slots := 0, locals := 89 } s m args below meth c (MQ below (va_Qi post (GB (xw cI cZ o W E) (dC, dI) gx_cl [(cI, .int), (cZ, .boolean)] A) A) args s 0 0 A) 5 (dC, dI) gx_cl A (xw cI cZ o W E))) 0 S [v1]) : GV p l e { frames := 2, cells := 0, slots := 0, locals := 89 } s m args below meth c (MQ below (va_Qi post (GB (xw cI cZ o W E) (dC, dI) gx_cl [(cI, .int), (cZ, .boolean)] A) A) args s 0 0 A) 5 (dC, dI) gx_cl A (xw cI cZ o W E) S 0 [(0, .ref (o 5)), (1, .int v1)] [] := by
  refine gx_aload_n C dF_take_0 0 rfl rfl ?_
  refine gx_iload_n C dF_take_1 1 rfl rfl ?_
  refine gx_calli (As := [.int v1]) (rest := []) C (mt_F_bestFor l dC dI cI cZ o W E _ _ _ hs) (gx_cwV C 1 ln_F_22 im_F_bestFor se_F_bestFor in_CountedObjects_FreeChunks cd_F_bestFor rfl rfl (by decide +kernel) ⟨Nat.le_of_ble_eq_true rfl, Nat.le_of_ble_eq_true rfl⟩) xo_fc rfl (Nat.le_of_ble_eq_true rfl) dF_take_2 (fun S1 => xw_ad _ S1) rfl (fun r2 S1 hs => ?_)
  refine gx_istore_n (L' := [(2, .int r2), (0, .ref (o 5)), (1, .int v1)]) C dF_take_5 rfl (by decide) rfl ?_
  refine gx_iload_n C dF_take_6 0 rfl rfl ?_
  refine gx_iconst (v := (-1)) C dF_take_7 (by decide) ?_
  obtain ⟨ht, hf⟩ := hs
  refine gx_icmp_ne C dF_take_8 13 rfl (fun hc => ?_) (fun hc => ?_)
  · have hs := ht hc
    refine gx_aload_n C dF_take_13 1 rfl rfl ?_
    refine gx_get C xo_fc hi_F 0 (by decide) fl_F_9 rfl dF_take_14 ?_
    refine gx_iload_n C dF_take_17 0 rfl rfl ?_
    obtain ⟨hin, hs⟩ := hs
    refine gx_iald C xa_starts hin dF_take_18 ?_
    refine gx_top (fun y3 ey3 => ?_)
    replace hs := hs y3 ey3
    refine gx_istore_n (L' := [(3, .int y3), (2, .int r2), (0, .ref (o 5)), (1, .int v1)]) C dF_take_19 rfl (by decide) rfl ?_
    refine gx_aload_n C dF_take_20 2 rfl rfl ?_
    refine gx_get C xo_fc hi_F 1 (by decide) fl_F_15 rfl dF_take_21 ?_
    refine gx_iload_n C dF_take_24 1 rfl rfl ?_
    obtain ⟨hin, hs⟩ := hs
    refine gx_iald C xa_sizes hin dF_take_25 ?_
    refine gx_iload_n C dF_take_26 3 rfl rfl ?_
    refine gx_isub C dF_take_27 ?_
    refine gx_top (fun y4 ey4 => ?_)
    replace hs := hs y4 ey4
    refine gx_istore (L' := [(4, .int y4), (3, .int y3), (2, .int r2), (0, .ref (o 5)), (1, .int v1)]) C dF_take_28 (by decide) rfl ?_
    refine gx_aload_n C dF_take_30 3 rfl rfl ?_
    refine gx_iload_n C dF_take_31 2 rfl rfl ?_
    refine gx_callv (As := [.int r2]) (rest := []) C (mt_F_remove l dC dI cI cZ o W E _ _ _ hs) (gx_cwV C 1 ln_F_26 im_F_remove se_F_remove in_CountedObjects_FreeChunks cd_F_remove rfl rfl (by decide +kernel) ⟨Nat.le_of_ble_eq_true rfl, Nat.le_of_ble_eq_true rfl⟩) xo_fc rfl (Nat.le_of_ble_eq_true rfl) dF_take_32 (fun S1 => xw_ad _ S1) rfl (fun S5 hs => ?_)
    refine gx_iload C dF_take_35 0 rfl ?_
    obtain ⟨ht, hf⟩ := hs
    refine gx_if_le C dF_take_37 49 rfl (fun hc => ?_) (fun hc => ?_)
    · have hs := ht hc
      refine gx_iload_n C dF_take_49 1 rfl rfl ?_
      exact gx_iret C hr hlocks dF_take_50 hs
    · have hs := hf hc
      refine gx_aload_n C dF_take_40 3 rfl rfl ?_
      refine gx_iload_n C dF_take_41 1 rfl rfl ?_
      refine gx_iload_n C dF_take_42 4 rfl rfl ?_
      refine gx_iadd C dF_take_43 ?_
      refine gx_iload C dF_take_44 0 rfl ?_
      refine gx_callv (As := [.int (y3 + v1), .int y4]) (rest := []) C (mt_F_add l dC dI cI cZ o W E _ _ _ _ hs) (gx_cwV C 2 ln_F_30 im_F_add se_F_add in_CountedObjects_FreeChunks cd_F_add rfl rfl (by decide +kernel) ⟨Nat.le_of_ble_eq_true rfl, Nat.le_of_ble_eq_true rfl⟩) xo_fc rfl (Nat.le_of_ble_eq_true rfl) dF_take_46 (fun S1 => xw_ad _ S1) rfl (fun S7 hs => ?_)
      refine gx_iload_n C dF_take_49 1 rfl rfl ?_
      exact gx_iret C hr hlocks dF_take_50 hs
  · have hs := hf hc
    refine gx_iconst (v := (-1)) C dF_take_11 (by decide) ?_
    exact gx_iret C hr hlocks dF_take_12 hs
set_option maxHeartbeats 4000000 in
set_option maxRecDepth 100000 in
theorem mt_F_take (l : Launch) (dC : Nat → ClassId) (dI : Nat → Nat → Nat) (cI cZ : ClassId) (o : Nat → Nat) (W E : Nat) (v1 : Int32) (S : GS) (post : Int32 → GS → Prop) (h : wp_F_take W E [v1] S post) : MetI l yF_take (Cond.code yF_take cF_take 5 (some .int) :: wsA) ({ frames := 2, cells := 0, slots := 0, locals := 89 }) (dC, dI) gx_cl [(cI, .int), (cZ, .boolean)] (xw cI cZ o W E) [.ref (o 5), .int v1] S post := by
  refine gx_metI (by decide) wsA_good (Nat.le_of_ble_eq_true rfl) ?_
  intro p e s m args below meth c A C hr hlocks
  refine h (vh_F_take o (GV p l e { frames := 2, cells := 0, slots := 0, locals := 89 } s m args below meth c (MQ below (va_Qi post (GB (xw cI cZ o W E) (dC, dI) gx_cl [(cI, .int), (cZ, .boolean)] A) A) args s 0 0 A) 5 (dC, dI) gx_cl A (xw cI cZ o W E))) (fun h S xs hs => ?_)
  unfold sp_F_take at hs
  split at hs
  · exact wk_F_take_0 C hr hlocks _ _ hs
  · exact hs.elim
/-- CountedObjects$FreeChunks.ofSize(I)I: a step from head to head -/
def sp_F_ofSize (W E : Nat) (post : Int32 → GS → Prop) (V : Nat → GS → List Int32 → Prop) (h : Nat) (S : GS) (xs : List Int32) : Prop := match h, xs with
  | 0, [v1] => ∀ y1 : Int32, y1 = 0 → ∀ y2 : Int32, y2 = 0 → V 4 S [v1, y1, y2]
  | 4, [v1, v2, v3] => (((S 100 0) ≤ v3 → post v2 S) ∧ (¬ (S 100 0) ≤ v3 → (vp_in v3 W ∧ ((¬ (S 7 (v3).toNatClampNeg) = v1 → (∀ y1 : Int32, y1 = v3 + 1 → V 4 S [v1, v2, y1])) ∧ ((S 7 (v3).toNatClampNeg) = v1 → (∀ y2 : Int32, y2 = v2 + 1 → (∀ y3 : Int32, y3 = v3 + 1 → V 4 S [v1, y2, y3])))))))
  | _, _ => False
def wp_F_ofSize (W E : Nat) (xs : List Int32) (S : GS) (post : Int32 → GS → Prop) : Prop := ∀ V : Nat → GS → List Int32 → Prop, (∀ h S xs, sp_F_ofSize W E post V h S xs → V h S xs) → V 0 S xs
def vh_F_ofSize (o : Nat → Nat) (G : GS → Nat → List (Nat × Value) → List Value → Prop) (h : Nat) (S : GS) (xs : List Int32) : Prop := match h, xs with
  | 0, [v1] => G S 0 [(0, .ref (o 5)), (1, .int v1)] []
  | 4, [v1, v2, v3] => G S 4 [(0, .ref (o 5)), (1, .int v1), (2, .int v2), (3, .int v3)] []
  | _, _ => True
set_option maxHeartbeats 4000000 in
set_option maxRecDepth 100000 in
theorem wk_F_ofSize_0 {l : Launch} {dC : Nat → ClassId} {dI : Nat → Nat → Nat} {cI cZ : ClassId} {o : Nat → Nat} {W E : Nat} {p : Program} {e : Env} {s : State} {m : MethodId} {args : Array Value} {below : List Frame} {meth : Method} {c : Code} {A : Nat → Prop} {post : Int32 → GS → Prop} (C : GC p s m args c cF_ofSize 4 RF wsA (dC, dI) gx_cl [(cI, .int), (cZ, .boolean)] A) (hr : meth.sig.returnType = (some .int)) (hlocks : meth.locks = false) (S : GS) (v1 : Int32) (hs : sp_F_ofSize W E post (vh_F_ofSize o (GV p l e { frames := 0, cells := 0, slots := 0, locals := 0 } s m args below meth c (MQ below (va_Qi post (GB (xw cI cZ o W E) (dC, dI) gx_cl [(cI, .int), (cZ, .boolean)] A) A) args s 0 0 A) 4 (dC, dI) gx_cl A (xw cI cZ o W E))) 0 S [v1]) : GV p l e { frames := 0, cells := 0, slots := 0, locals := 0 } s m args below meth c (MQ below (va_Qi post (GB (xw cI cZ o W E) (dC, dI) gx_cl [(cI, .int), (cZ, .boolean)] A) A) args s 0 0 A) 4 (dC, dI) gx_cl A (xw cI cZ o W E) S 0 [(0, .ref (o 5)), (1, .int v1)] [] := by
  refine gx_iconst (v := 0) C dF_ofSize_0 (by decide) ?_
  refine gx_top (fun y1 ey1 => ?_)
  replace hs := hs y1 ey1
  refine gx_istore_n (L' := [(2, .int y1), (0, .ref (o 5)), (1, .int v1)]) C dF_ofSize_1 rfl (by decide) rfl ?_
  refine gx_iconst (v := 0) C dF_ofSize_2 (by decide) ?_
  refine gx_top (fun y2 ey2 => ?_)
  replace hs := hs y2 ey2
  refine gx_istore_n (L' := [(3, .int y2), (2, .int y1), (0, .ref (o 5)), (1, .int v1)]) C dF_ofSize_3 rfl (by decide) rfl ?_
  exact gx_sub [2, 3, 1, 0] rfl hs
set_option maxHeartbeats 4000000 in
set_option maxRecDepth 100000 in
theorem wk_F_ofSize_4 {l : Launch} {dC : Nat → ClassId} {dI : Nat → Nat → Nat} {cI cZ : ClassId} {o : Nat → Nat} {W E : Nat} {p : Program} {e : Env} {s : State} {m : MethodId} {args : Array Value} {below : List Frame} {meth : Method} {c : Code} {A : Nat → Prop} {post : Int32 → GS → Prop} (C : GC p s m args c cF_ofSize 4 RF wsA (dC, dI) gx_cl [(cI, .int), (cZ, .boolean)] A) (hr : meth.sig.returnType = (some .int)) (hlocks : meth.locks = false) (S : GS) (v1 : Int32) (v2 : Int32) (v3 : Int32) (hs : sp_F_ofSize W E post (vh_F_ofSize o (GV p l e { frames := 0, cells := 0, slots := 0, locals := 0 } s m args below meth c (MQ below (va_Qi post (GB (xw cI cZ o W E) (dC, dI) gx_cl [(cI, .int), (cZ, .boolean)] A) A) args s 0 0 A) 4 (dC, dI) gx_cl A (xw cI cZ o W E))) 4 S [v1, v2, v3]) : GV p l e { frames := 0, cells := 0, slots := 0, locals := 0 } s m args below meth c (MQ below (va_Qi post (GB (xw cI cZ o W E) (dC, dI) gx_cl [(cI, .int), (cZ, .boolean)] A) A) args s 0 0 A) 4 (dC, dI) gx_cl A (xw cI cZ o W E) S 4 [(0, .ref (o 5)), (1, .int v1), (2, .int v2), (3, .int v3)] [] := by
  refine gx_iload_n C dF_ofSize_4 3 rfl rfl ?_
  refine gx_aload_n C dF_ofSize_5 0 rfl rfl ?_
  refine gx_get C xo_fc hi_F 2 (by decide) fl_F_18 rfl dF_ofSize_6 ?_
  obtain ⟨ht, hf⟩ := hs
  refine gx_icmp_ge C dF_ofSize_9 31 rfl (fun hc => ?_) (fun hc => ?_)
  · have hs := ht hc
    refine gx_iload_n C dF_ofSize_31 2 rfl rfl ?_
    exact gx_iret C hr hlocks dF_ofSize_32 hs
  · have hs := hf hc
    refine gx_aload_n C dF_ofSize_12 0 rfl rfl ?_
    refine gx_get C xo_fc hi_F 1 (by decide) fl_F_15 rfl dF_ofSize_13 ?_
    refine gx_iload_n C dF_ofSize_16 3 rfl rfl ?_
    obtain ⟨hin, hs⟩ := hs
    refine gx_iald C xa_sizes hin dF_ofSize_17 ?_
    refine gx_iload_n C dF_ofSize_18 1 rfl rfl ?_
    obtain ⟨ht, hf⟩ := hs
    refine gx_icmp_ne C dF_ofSize_19 25 rfl (fun hc => ?_) (fun hc => ?_)
    · have hs := ht hc
      refine gx_iinc (v0 := 1) (f := fun v => [(3, .int v), (0, .ref (o 5)), (1, .int v1), (2, .int v2)]) C dF_ofSize_25 3 rfl (by decide) (by decide) (fun _ => rfl) (fun y1 ey1 => ?_)
      replace hs := hs y1 ey1
      refine gx_goto C dF_ofSize_28 4 rfl ?_
      exact gx_sub [1, 2, 3, 0] rfl hs
    · have hs := hf hc
      refine gx_iinc (v0 := 1) (f := fun v => [(2, .int v), (0, .ref (o 5)), (1, .int v1), (3, .int v3)]) C dF_ofSize_22 2 rfl (by decide) (by decide) (fun _ => rfl) (fun y2 ey2 => ?_)
      replace hs := hs y2 ey2
      refine gx_iinc (v0 := 1) (f := fun v => [(3, .int v), (2, .int y2), (0, .ref (o 5)), (1, .int v1)]) C dF_ofSize_25 3 rfl (by decide) (by decide) (fun _ => rfl) (fun y3 ey3 => ?_)
      replace hs := hs y3 ey3
      refine gx_goto C dF_ofSize_28 4 rfl ?_
      exact gx_sub [2, 3, 1, 0] rfl hs
set_option maxHeartbeats 4000000 in
set_option maxRecDepth 100000 in
theorem mt_F_ofSize (l : Launch) (dC : Nat → ClassId) (dI : Nat → Nat → Nat) (cI cZ : ClassId) (o : Nat → Nat) (W E : Nat) (v1 : Int32) (S : GS) (post : Int32 → GS → Prop) (h : wp_F_ofSize W E [v1] S post) : MetI l yF_ofSize (Cond.code yF_ofSize cF_ofSize 4 (some .int) :: wsA) ({ frames := 0, cells := 0, slots := 0, locals := 0 }) (dC, dI) gx_cl [(cI, .int), (cZ, .boolean)] (xw cI cZ o W E) [.ref (o 5), .int v1] S post := by
  refine gx_metI (by decide) wsA_good (Nat.le_of_ble_eq_true rfl) ?_
  intro p e s m args below meth c A C hr hlocks
  refine h (vh_F_ofSize o (GV p l e { frames := 0, cells := 0, slots := 0, locals := 0 } s m args below meth c (MQ below (va_Qi post (GB (xw cI cZ o W E) (dC, dI) gx_cl [(cI, .int), (cZ, .boolean)] A) A) args s 0 0 A) 4 (dC, dI) gx_cl A (xw cI cZ o W E))) (fun h S xs hs => ?_)
  unfold sp_F_ofSize at hs
  split at hs
  · exact wk_F_ofSize_0 C hr hlocks _ _ hs
  · exact wk_F_ofSize_4 C hr hlocks _ _ _ _ hs
  · exact hs.elim
/-- CountedObjects$FreeChunks.allWords()I: a step from head to head -/
def sp_F_allWords (W E : Nat) (post : Int32 → GS → Prop) (V : Nat → GS → List Int32 → Prop) (h : Nat) (S : GS) (xs : List Int32) : Prop := match h, xs with
  | 0, [] => ∀ y1 : Int32, y1 = 0 → ∀ y2 : Int32, y2 = 0 → V 4 S [y1, y2]
  | 4, [v1, v2] => (((S 100 0) ≤ v2 → post v1 S) ∧ (¬ (S 100 0) ≤ v2 → (vp_in v2 W ∧ ∀ y1 : Int32, y1 = v1 + (S 7 (v2).toNatClampNeg) → (∀ y2 : Int32, y2 = v2 + 1 → V 4 S [y1, y2]))))
  | _, _ => False
def wp_F_allWords (W E : Nat) (xs : List Int32) (S : GS) (post : Int32 → GS → Prop) : Prop := ∀ V : Nat → GS → List Int32 → Prop, (∀ h S xs, sp_F_allWords W E post V h S xs → V h S xs) → V 0 S xs
def vh_F_allWords (o : Nat → Nat) (G : GS → Nat → List (Nat × Value) → List Value → Prop) (h : Nat) (S : GS) (xs : List Int32) : Prop := match h, xs with
  | 0, [] => G S 0 [(0, .ref (o 5))] []
  | 4, [v1, v2] => G S 4 [(0, .ref (o 5)), (1, .int v1), (2, .int v2)] []
  | _, _ => True
set_option maxHeartbeats 4000000 in
set_option maxRecDepth 100000 in
theorem wk_F_allWords_0 {l : Launch} {dC : Nat → ClassId} {dI : Nat → Nat → Nat} {cI cZ : ClassId} {o : Nat → Nat} {W E : Nat} {p : Program} {e : Env} {s : State} {m : MethodId} {args : Array Value} {below : List Frame} {meth : Method} {c : Code} {A : Nat → Prop} {post : Int32 → GS → Prop} (C : GC p s m args c cF_allWords 3 RF wsA (dC, dI) gx_cl [(cI, .int), (cZ, .boolean)] A) (hr : meth.sig.returnType = (some .int)) (hlocks : meth.locks = false) (S : GS) (hs : sp_F_allWords W E post (vh_F_allWords o (GV p l e { frames := 0, cells := 0, slots := 0, locals := 0 } s m args below meth c (MQ below (va_Qi post (GB (xw cI cZ o W E) (dC, dI) gx_cl [(cI, .int), (cZ, .boolean)] A) A) args s 0 0 A) 3 (dC, dI) gx_cl A (xw cI cZ o W E))) 0 S []) : GV p l e { frames := 0, cells := 0, slots := 0, locals := 0 } s m args below meth c (MQ below (va_Qi post (GB (xw cI cZ o W E) (dC, dI) gx_cl [(cI, .int), (cZ, .boolean)] A) A) args s 0 0 A) 3 (dC, dI) gx_cl A (xw cI cZ o W E) S 0 [(0, .ref (o 5))] [] := by
  refine gx_iconst (v := 0) C dF_allWords_0 (by decide) ?_
  refine gx_top (fun y1 ey1 => ?_)
  replace hs := hs y1 ey1
  refine gx_istore_n (L' := [(1, .int y1), (0, .ref (o 5))]) C dF_allWords_1 rfl (by decide) rfl ?_
  refine gx_iconst (v := 0) C dF_allWords_2 (by decide) ?_
  refine gx_top (fun y2 ey2 => ?_)
  replace hs := hs y2 ey2
  refine gx_istore_n (L' := [(2, .int y2), (1, .int y1), (0, .ref (o 5))]) C dF_allWords_3 rfl (by decide) rfl ?_
  exact gx_sub [2, 1, 0] rfl hs
set_option maxHeartbeats 4000000 in
set_option maxRecDepth 100000 in
theorem wk_F_allWords_4 {l : Launch} {dC : Nat → ClassId} {dI : Nat → Nat → Nat} {cI cZ : ClassId} {o : Nat → Nat} {W E : Nat} {p : Program} {e : Env} {s : State} {m : MethodId} {args : Array Value} {below : List Frame} {meth : Method} {c : Code} {A : Nat → Prop} {post : Int32 → GS → Prop} (C : GC p s m args c cF_allWords 3 RF wsA (dC, dI) gx_cl [(cI, .int), (cZ, .boolean)] A) (hr : meth.sig.returnType = (some .int)) (hlocks : meth.locks = false) (S : GS) (v1 : Int32) (v2 : Int32) (hs : sp_F_allWords W E post (vh_F_allWords o (GV p l e { frames := 0, cells := 0, slots := 0, locals := 0 } s m args below meth c (MQ below (va_Qi post (GB (xw cI cZ o W E) (dC, dI) gx_cl [(cI, .int), (cZ, .boolean)] A) A) args s 0 0 A) 3 (dC, dI) gx_cl A (xw cI cZ o W E))) 4 S [v1, v2]) : GV p l e { frames := 0, cells := 0, slots := 0, locals := 0 } s m args below meth c (MQ below (va_Qi post (GB (xw cI cZ o W E) (dC, dI) gx_cl [(cI, .int), (cZ, .boolean)] A) A) args s 0 0 A) 3 (dC, dI) gx_cl A (xw cI cZ o W E) S 4 [(0, .ref (o 5)), (1, .int v1), (2, .int v2)] [] := by
  refine gx_iload_n C dF_allWords_4 2 rfl rfl ?_
  refine gx_aload_n C dF_allWords_5 0 rfl rfl ?_
  refine gx_get C xo_fc hi_F 2 (by decide) fl_F_18 rfl dF_allWords_6 ?_
  obtain ⟨ht, hf⟩ := hs
  refine gx_icmp_ge C dF_allWords_9 27 rfl (fun hc => ?_) (fun hc => ?_)
  · have hs := ht hc
    refine gx_iload_n C dF_allWords_27 1 rfl rfl ?_
    exact gx_iret C hr hlocks dF_allWords_28 hs
  · have hs := hf hc
    refine gx_iload_n C dF_allWords_12 1 rfl rfl ?_
    refine gx_aload_n C dF_allWords_13 0 rfl rfl ?_
    refine gx_get C xo_fc hi_F 1 (by decide) fl_F_15 rfl dF_allWords_14 ?_
    refine gx_iload_n C dF_allWords_17 2 rfl rfl ?_
    obtain ⟨hin, hs⟩ := hs
    refine gx_iald C xa_sizes hin dF_allWords_18 ?_
    refine gx_iadd C dF_allWords_19 ?_
    refine gx_top (fun y1 ey1 => ?_)
    replace hs := hs y1 ey1
    refine gx_istore_n (L' := [(1, .int y1), (0, .ref (o 5)), (2, .int v2)]) C dF_allWords_20 rfl (by decide) rfl ?_
    refine gx_iinc (v0 := 1) (f := fun v => [(2, .int v), (1, .int y1), (0, .ref (o 5))]) C dF_allWords_21 2 rfl (by decide) (by decide) (fun _ => rfl) (fun y2 ey2 => ?_)
    replace hs := hs y2 ey2
    refine gx_goto C dF_allWords_24 4 rfl ?_
    exact gx_sub [2, 1, 0] rfl hs
set_option maxHeartbeats 4000000 in
set_option maxRecDepth 100000 in
theorem mt_F_allWords (l : Launch) (dC : Nat → ClassId) (dI : Nat → Nat → Nat) (cI cZ : ClassId) (o : Nat → Nat) (W E : Nat) (S : GS) (post : Int32 → GS → Prop) (h : wp_F_allWords W E [] S post) : MetI l yF_allWords (Cond.code yF_allWords cF_allWords 3 (some .int) :: wsA) ({ frames := 0, cells := 0, slots := 0, locals := 0 }) (dC, dI) gx_cl [(cI, .int), (cZ, .boolean)] (xw cI cZ o W E) [.ref (o 5)] S post := by
  refine gx_metI (by decide) wsA_good (Nat.le_of_ble_eq_true rfl) ?_
  intro p e s m args below meth c A C hr hlocks
  refine h (vh_F_allWords o (GV p l e { frames := 0, cells := 0, slots := 0, locals := 0 } s m args below meth c (MQ below (va_Qi post (GB (xw cI cZ o W E) (dC, dI) gx_cl [(cI, .int), (cZ, .boolean)] A) A) args s 0 0 A) 3 (dC, dI) gx_cl A (xw cI cZ o W E))) (fun h S xs hs => ?_)
  unfold sp_F_allWords at hs
  split at hs
  · exact wk_F_allWords_0 C hr hlocks _ hs
  · exact wk_F_allWords_4 C hr hlocks _ _ _ hs
  · exact hs.elim
