/-! The law's helpers: a call of the class, what it throws told by a number. -/
theorem cl_L_13 : Cond.classLink RL 13 xE1 ∈ wsA := wsA_in (i := 175) (by decide +kernel) (by decide +kernel)
theorem cl_L_15 : Cond.classLink RL 15 xE2 ∈ wsA := wsA_in (i := 176) (by decide +kernel) (by decide +kernel)
theorem cl_L_17 : Cond.classLink RL 17 xE3 ∈ wsA := wsA_in (i := 177) (by decide +kernel) (by decide +kernel)
theorem gl_cwV {p : Program} {s : State} {m : MethodId} {args : Array Value} {c : Code} {cc : ByteArray} {nL : Nat} {own : String} {Ts : List Cond} {D : va_G} {cl : List vw_C} {tys : List (ClassId × FieldType)} {A : Nat → Prop} {R : Room} (C : GC p s m args c cc nL own Ts D cl tys A) {y : MethodName} {bytes : ByteArray} {maxL index mc ms : Nat} {ret : Option FieldType} {rm : Room} {Cn : String} (n : Nat) (h1 : Cond.methodLink own index y ∈ Ts) (h2 : Cond.instanceMethod y ∈ Ts) (h3 : Cond.selects Cn y y ∈ Ts) (h4 : Cond.initialized Cn ∈ Ts) (h5 : Cond.code y bytes maxL ret ∈ Ts) (hrc : rm.cells = mc) (hrs : rm.slots = ms) (hd : y.cls = Cn ∧ y.cls ≠ "java/lang/invoke/MethodHandle" ∧ y.cls ≠ "java/lang/invoke/VarHandle" ∧ (parseMethodDescriptor y.desc).map (fun d => d.parameters.length) = some n) (hR : rm.frames + 1 ≤ R.frames ∧ 8 + (maxL + 11) + rm.locals ≤ R.locals) : CallW R s args own Cn index y bytes maxL ret (Cond.code y bytes maxL ret :: Ts) rm mc ms n := by
  refine cwV n C.1.2.2.2.2 (gx_good C.2.2.2 ?_) rfl hrc hrs hd hR
  intro w hw
  unfold wsV at hw
  rcases List.mem_append.mp hw with hw | hw
  · rcases List.mem_cons.mp hw with rfl | hw
    · exact h1
    · rcases List.mem_cons.mp hw with rfl | hw
      · exact h2
      · rcases List.mem_cons.mp hw with rfl | hw
        · exact h3
        · rw [List.mem_singleton.mp hw]; exact h4
  · rcases List.mem_cons.mp hw with rfl | hw
    · exact h5
    · exact hw
def LMetI (l : Launch) (y : MethodName) (ws : List Cond) (rm : Room) (D : va_G) (cl : List vw_C) (tys : List (ClassId × FieldType)) (wd : GS → va_W) (av : List Value) (S : GS) (post : Int32 → GS → Prop) : Prop :=
  ∀ sz : Nat, Met l y ws rm (va_Pc av (fun U => GP wd D cl tys S sz U ∧ ZL (va_A (wd S) sz) U)) (va_Qi post (GB wd D cl tys (va_A (wd S) sz)) (va_A (wd S) sz)) 1 6 (va_A (wd S) sz)
theorem gl_metL {l : Launch} {y : MethodName} {Ts : List Cond} {rm : Room} {cc : ByteArray} {maxL : Nat} {hh : List (Nat × Nat × Nat × Nat)} {D : va_G} {cl : List vw_C} {tys : List (ClassId × FieldType)} {wd : GS → va_W} {av : List Value} {S : GS} {post : Int32 → GS → Prop} {ret : Option FieldType} (hy : plainName y.cls = true) (hgood : ∀ w ∈ Ts, goodWord w = true) (hlen : (lg_sl av).length ≤ maxL)
    (body : ∀ (p : Program) (e : Env) (s : State) (m : MethodId) (args : Array Value) (below : List Frame) (meth : Method) (c : Code) (A : Nat → Prop), GC p s m args c cc maxL y.cls Ts D cl tys A → meth.sig.returnType = ret → meth.locks = false → ZL A s → c.exceptionTable.toList = tableOf hh → GW 0 0 p l e rm s m args below meth c (MQ below (va_Qi post (GB wd D cl tys A) A) args s 1 6 A) maxL D cl A wd S 0 (lv_args 0 av) []) : LMetI l y (Cond.codeWith y cc maxL ret hh :: Ts) rm D cl tys wd av S post := by
  intro sz
  refine va_MetW (cc := cc) (maxL := maxL) (ret := ret) (hh := hh) hy rfl ?_
  intro p e s m args below meth c s₁ B hml hv
  obtain ⟨rfl, ⟨hsz, hP, hK, hD0⟩, hZ⟩ := hv
  subst hsz
  rw [lg_entry_eq]
  have hall := atoms_spec (ws := Cond.codeWith y cc maxL ret hh :: Ts) B.pre
  exact body p e s m av.toArray below meth c (va_A (wd S) s.heap.size) ⟨⟨B.exec, B.bytes, hml, findClass_of_methodNamed B.named, fun w hw => hall w (List.mem_cons_of_mem _ hw)⟩, hK, fun q h => Or.inr h, hgood⟩ B.returns B.notSynchronized hZ (vx_table (x := y) B (hall _ List.mem_cons_self)) s.heap [] _ (lv_entry av hlen) hP hD0.self va_S.rf
theorem cw_L_instantiate : Cond.codeWith yL_instantiate cL_instantiate 6 (some .int) [(0, 12, 15, 13), (0, 12, 19, 15), (0, 12, 23, 17)] ∈ wsA := wsA_in (i := 174) (by decide +kernel) (by decide +kernel)
theorem dL_instantiate_0 : decode cL_instantiate 0 = .ok (.aload 4, 2) := by decide +kernel
theorem dL_instantiate_2 : decode cL_instantiate 2 = .ok (.iconst 0, 1) := by decide +kernel
theorem dL_instantiate_3 : decode cL_instantiate 3 = .ok (.aload_n 0, 1) := by decide +kernel
theorem dL_instantiate_4 : decode cL_instantiate 4 = .ok (.iload_n 1, 1) := by decide +kernel
theorem dL_instantiate_5 : decode cL_instantiate 5 = .ok (.iload_n 2, 1) := by decide +kernel
theorem dL_instantiate_6 : decode cL_instantiate 6 = .ok (.iload_n 3, 1) := by decide +kernel
theorem dL_instantiate_7 : decode cL_instantiate 7 = .ok (.invokevirtual 7, 3) := by decide +kernel
theorem dL_instantiate_10 : decode cL_instantiate 10 = .ok (.i2l, 1) := by decide +kernel
theorem dL_instantiate_11 : decode cL_instantiate 11 = .ok (.lastore, 1) := by decide +kernel
theorem dL_instantiate_12 : decode cL_instantiate 12 = .ok (.goto 15, 3) := by decide +kernel
theorem dL_instantiate_15 : decode cL_instantiate 15 = .ok (.astore 5, 2) := by decide +kernel
theorem dL_instantiate_17 : decode cL_instantiate 17 = .ok (.iconst 1, 1) := by decide +kernel
theorem dL_instantiate_18 : decode cL_instantiate 18 = .ok (.ireturn, 1) := by decide +kernel
theorem dL_instantiate_19 : decode cL_instantiate 19 = .ok (.astore 5, 2) := by decide +kernel
theorem dL_instantiate_21 : decode cL_instantiate 21 = .ok (.iconst 2, 1) := by decide +kernel
theorem dL_instantiate_22 : decode cL_instantiate 22 = .ok (.ireturn, 1) := by decide +kernel
theorem dL_instantiate_23 : decode cL_instantiate 23 = .ok (.astore 5, 2) := by decide +kernel
theorem dL_instantiate_25 : decode cL_instantiate 25 = .ok (.iconst 3, 1) := by decide +kernel
theorem dL_instantiate_26 : decode cL_instantiate 26 = .ok (.ireturn, 1) := by decide +kernel
theorem dL_instantiate_27 : decode cL_instantiate 27 = .ok (.iconst 0, 1) := by decide +kernel
theorem dL_instantiate_28 : decode cL_instantiate 28 = .ok (.ireturn, 1) := by decide +kernel
set_option maxHeartbeats 4000000 in
set_option maxRecDepth 100000 in
theorem mt_L_instantiate (l : Launch) (hl : l.stackTraces = false) (dC : Nat → ClassId) (dI : Nat → Nat → Nat) (cI cZ cL : ClassId) (o o' : Nat → Nat) (oo W E : Nat) (a1 : Int32) (a2 : Int32) (a3 : Int32) (S : GS) (post : Int32 → GS → Prop) (h : wp_X_instantiate W E [a1, a2, a3] S (fun r S1 => post 0 (gx_set 150 0 r (ljx S S1))) (fun X S1 => (X = xE1 ∧ post 1 (ljx S S1)) ∨ (X = xE2 ∧ post 2 (ljx S S1)) ∨ (X = xE3 ∧ post 3 (ljx S S1)))) : LMetI l yL_instantiate (Cond.codeWith yL_instantiate cL_instantiate 6 (some .int) [(0, 12, 15, 13), (0, 12, 19, 15), (0, 12, 23, 17)] :: wsA) ({ frames := 97, cells := 1, slots := 6, locals := 2430 }) (dC, dI) gx_cl (ltys cI cZ cL) (lw cI cZ cL o o' oo W E) [.ref (o 0), .int a1, .int a2, .int a3, .ref oo] S post := by
  refine gl_metL (by decide) wsA_good (Nat.le_of_ble_eq_true rfl) ?_
  intro p e s m args below meth c A C hr hlocks hZ hT
  refine gl_aload C dL_instantiate_0 4 rfl ?_
  refine gx_iconst (v := 0) C dL_instantiate_2 (by decide) ?_
  refine gx_aload_n C dL_instantiate_3 0 rfl rfl ?_
  refine gx_iload_n C dL_instantiate_4 1 rfl rfl ?_
  refine gx_iload_n C dL_instantiate_5 2 rfl rfl ?_
  refine gx_iload_n C dL_instantiate_6 3 rfl rfl ?_
  refine gl_callXXi (As := [.int a1, .int a2, .int a3]) (rest := [.int 0, .ref oo]) C hZ.1 (mt_X_instantiate l hl dC dI cI cZ o W E _ _ _ _ _ _  h) (gl_cwV C 3 ln_L_7 im_X_instantiate se_X_instantiate in_CountedObjects cd_X_instantiate rfl rfl (by decide +kernel) ⟨Nat.le_of_ble_eq_true rfl, Nat.le_of_ble_eq_true rfl⟩) rfl (Nat.le_of_ble_eq_true rfl) dL_instantiate_7 rfl ⟨Nat.le_of_ble_eq_true rfl, Nat.le_of_ble_eq_true rfl⟩ (fun X S1 hs => ?_) (fun r S1 hs => ?_)
  · rcases hs with ⟨rfl, hs⟩ | ⟨rfl, hs⟩ | ⟨rfl, hs⟩
    · refine gl_catch C hT [] ⟨0, 12, 15, 13⟩ [⟨0, 12, 19, 15⟩, ⟨0, 12, 23, 17⟩] rfl (fun z hz => nomatch hz) (by decide) (by decide) cl_L_13 hZ.1.1 (fun q => ?_)
      refine gl_astore (L' := [(5, .ref q), (0, .ref (o 0)), (1, .int a1), (2, .int a2), (3, .int a3), (4, .ref oo)]) C dL_instantiate_15 (by decide) rfl ?_
      refine gx_iconst (v := 1) C dL_instantiate_17 (by decide) ?_
      exact gl_iret C hr hlocks dL_instantiate_18 hs
    · refine gl_catch C hT [⟨0, 12, 15, 13⟩] ⟨0, 12, 19, 15⟩ [⟨0, 12, 23, 17⟩] rfl (List.forall_mem_cons.mpr ⟨⟨by decide, xE1, cl_L_13, hZ.2.1⟩, (fun z hz => nomatch hz)⟩) (by decide) (by decide) cl_L_15 hZ.1.2.1 (fun q => ?_)
      refine gl_astore (L' := [(5, .ref q), (0, .ref (o 0)), (1, .int a1), (2, .int a2), (3, .int a3), (4, .ref oo)]) C dL_instantiate_19 (by decide) rfl ?_
      refine gx_iconst (v := 2) C dL_instantiate_21 (by decide) ?_
      exact gl_iret C hr hlocks dL_instantiate_22 hs
    · refine gl_catch C hT [⟨0, 12, 15, 13⟩, ⟨0, 12, 19, 15⟩] ⟨0, 12, 23, 17⟩ [] rfl (List.forall_mem_cons.mpr ⟨⟨by decide, xE1, cl_L_13, hZ.2.2.1⟩, (List.forall_mem_cons.mpr ⟨⟨by decide, xE2, cl_L_15, hZ.2.2.2.1⟩, (fun z hz => nomatch hz)⟩)⟩) (by decide) (by decide) cl_L_17 hZ.1.2.2.1 (fun q => ?_)
      refine gl_astore (L' := [(5, .ref q), (0, .ref (o 0)), (1, .int a1), (2, .int a2), (3, .int a3), (4, .ref oo)]) C dL_instantiate_23 (by decide) rfl ?_
      refine gx_iconst (v := 3) C dL_instantiate_25 (by decide) ?_
      exact gl_iret C hr hlocks dL_instantiate_26 hs
  · refine gl_i2l C dL_instantiate_10 ?_
    refine gl_lastore C dL_instantiate_11 ?_
    refine gx_goto C dL_instantiate_12 27 rfl ?_
    refine gx_iconst (v := 0) C dL_instantiate_27 (by decide) ?_
    exact gl_iret C hr hlocks dL_instantiate_28 hs
theorem cw_L_set : Cond.codeWith yL_set cL_set 5 (some .int) [(0, 10, 13, 13), (0, 10, 17, 15)] ∈ wsA := wsA_in (i := 326) (by decide +kernel) (by decide +kernel)
theorem dL_set_0 : decode cL_set 0 = .ok (.aload_n 3, 1) := by decide +kernel
theorem dL_set_1 : decode cL_set 1 = .ok (.iconst 0, 1) := by decide +kernel
theorem dL_set_2 : decode cL_set 2 = .ok (.aload_n 0, 1) := by decide +kernel
theorem dL_set_3 : decode cL_set 3 = .ok (.iload_n 1, 1) := by decide +kernel
theorem dL_set_4 : decode cL_set 4 = .ok (.iload_n 2, 1) := by decide +kernel
theorem dL_set_5 : decode cL_set 5 = .ok (.invokevirtual 19, 3) := by decide +kernel
theorem dL_set_8 : decode cL_set 8 = .ok (.i2l, 1) := by decide +kernel
theorem dL_set_9 : decode cL_set 9 = .ok (.lastore, 1) := by decide +kernel
theorem dL_set_10 : decode cL_set 10 = .ok (.goto 11, 3) := by decide +kernel
theorem dL_set_13 : decode cL_set 13 = .ok (.astore 4, 2) := by decide +kernel
theorem dL_set_15 : decode cL_set 15 = .ok (.iconst 1, 1) := by decide +kernel
theorem dL_set_16 : decode cL_set 16 = .ok (.ireturn, 1) := by decide +kernel
theorem dL_set_17 : decode cL_set 17 = .ok (.astore 4, 2) := by decide +kernel
theorem dL_set_19 : decode cL_set 19 = .ok (.iconst 2, 1) := by decide +kernel
theorem dL_set_20 : decode cL_set 20 = .ok (.ireturn, 1) := by decide +kernel
theorem dL_set_21 : decode cL_set 21 = .ok (.iconst 0, 1) := by decide +kernel
theorem dL_set_22 : decode cL_set 22 = .ok (.ireturn, 1) := by decide +kernel
set_option maxHeartbeats 4000000 in
set_option maxRecDepth 100000 in
theorem mt_L_set (l : Launch) (hl : l.stackTraces = false) (dC : Nat → ClassId) (dI : Nat → Nat → Nat) (cI cZ cL : ClassId) (o o' : Nat → Nat) (oo W E : Nat) (a1 : Int32) (a2 : Int32) (S : GS) (post : Int32 → GS → Prop) (h : wp_X_set W E [a1, a2] S (fun r S1 => post 0 (gx_set 150 0 r (ljx S S1))) (fun X S1 => (X = xE1 ∧ post 1 (ljx S S1)) ∨ (X = xE2 ∧ post 2 (ljx S S1)))) : LMetI l yL_set (Cond.codeWith yL_set cL_set 5 (some .int) [(0, 10, 13, 13), (0, 10, 17, 15)] :: wsA) ({ frames := 97, cells := 1, slots := 6, locals := 2427 }) (dC, dI) gx_cl (ltys cI cZ cL) (lw cI cZ cL o o' oo W E) [.ref (o 0), .int a1, .int a2, .ref oo] S post := by
  refine gl_metL (by decide) wsA_good (Nat.le_of_ble_eq_true rfl) ?_
  intro p e s m args below meth c A C hr hlocks hZ hT
  refine gx_aload_n C dL_set_0 3 rfl rfl ?_
  refine gx_iconst (v := 0) C dL_set_1 (by decide) ?_
  refine gx_aload_n C dL_set_2 0 rfl rfl ?_
  refine gx_iload_n C dL_set_3 1 rfl rfl ?_
  refine gx_iload_n C dL_set_4 2 rfl rfl ?_
  refine gl_callXXi (As := [.int a1, .int a2]) (rest := [.int 0, .ref oo]) C hZ.1 (mt_X_set l hl dC dI cI cZ o W E _ _ _ _ _  h) (gl_cwV C 2 ln_L_19 im_X_set se_X_set in_CountedObjects cd_X_set rfl rfl (by decide +kernel) ⟨Nat.le_of_ble_eq_true rfl, Nat.le_of_ble_eq_true rfl⟩) rfl (Nat.le_of_ble_eq_true rfl) dL_set_5 rfl ⟨Nat.le_of_ble_eq_true rfl, Nat.le_of_ble_eq_true rfl⟩ (fun X S1 hs => ?_) (fun r S1 hs => ?_)
  · rcases hs with ⟨rfl, hs⟩ | ⟨rfl, hs⟩
    · refine gl_catch C hT [] ⟨0, 10, 13, 13⟩ [⟨0, 10, 17, 15⟩] rfl (fun z hz => nomatch hz) (by decide) (by decide) cl_L_13 hZ.1.1 (fun q => ?_)
      refine gl_astore (L' := [(4, .ref q), (0, .ref (o 0)), (1, .int a1), (2, .int a2), (3, .ref oo)]) C dL_set_13 (by decide) rfl ?_
      refine gx_iconst (v := 1) C dL_set_15 (by decide) ?_
      exact gl_iret C hr hlocks dL_set_16 hs
    · refine gl_catch C hT [⟨0, 10, 13, 13⟩] ⟨0, 10, 17, 15⟩ [] rfl (List.forall_mem_cons.mpr ⟨⟨by decide, xE1, cl_L_13, hZ.2.1⟩, (fun z hz => nomatch hz)⟩) (by decide) (by decide) cl_L_15 hZ.1.2.1 (fun q => ?_)
      refine gl_astore (L' := [(4, .ref q), (0, .ref (o 0)), (1, .int a1), (2, .int a2), (3, .ref oo)]) C dL_set_17 (by decide) rfl ?_
      refine gx_iconst (v := 2) C dL_set_19 (by decide) ?_
      exact gl_iret C hr hlocks dL_set_20 hs
  · refine gl_i2l C dL_set_8 ?_
    refine gl_lastore C dL_set_9 ?_
    refine gx_goto C dL_set_10 21 rfl ?_
    refine gx_iconst (v := 0) C dL_set_21 (by decide) ?_
    exact gl_iret C hr hlocks dL_set_22 hs
theorem cw_L_register : Cond.codeWith yL_register cL_register 4 (some .int) [(0, 9, 12, 13)] ∈ wsA := wsA_in (i := 333) (by decide +kernel) (by decide +kernel)
theorem dL_register_0 : decode cL_register 0 = .ok (.aload_n 2, 1) := by decide +kernel
theorem dL_register_1 : decode cL_register 1 = .ok (.iconst 0, 1) := by decide +kernel
theorem dL_register_2 : decode cL_register 2 = .ok (.aload_n 0, 1) := by decide +kernel
theorem dL_register_3 : decode cL_register 3 = .ok (.iload_n 1, 1) := by decide +kernel
theorem dL_register_4 : decode cL_register 4 = .ok (.invokevirtual 23, 3) := by decide +kernel
theorem dL_register_7 : decode cL_register 7 = .ok (.i2l, 1) := by decide +kernel
theorem dL_register_8 : decode cL_register 8 = .ok (.lastore, 1) := by decide +kernel
theorem dL_register_9 : decode cL_register 9 = .ok (.goto 6, 3) := by decide +kernel
theorem dL_register_12 : decode cL_register 12 = .ok (.astore_n 3, 1) := by decide +kernel
theorem dL_register_13 : decode cL_register 13 = .ok (.iconst 1, 1) := by decide +kernel
theorem dL_register_14 : decode cL_register 14 = .ok (.ireturn, 1) := by decide +kernel
theorem dL_register_15 : decode cL_register 15 = .ok (.iconst 0, 1) := by decide +kernel
theorem dL_register_16 : decode cL_register 16 = .ok (.ireturn, 1) := by decide +kernel
set_option maxHeartbeats 4000000 in
set_option maxRecDepth 100000 in
theorem mt_L_register (l : Launch) (hl : l.stackTraces = false) (dC : Nat → ClassId) (dI : Nat → Nat → Nat) (cI cZ cL : ClassId) (o o' : Nat → Nat) (oo W E : Nat) (a1 : Int32) (S : GS) (post : Int32 → GS → Prop) (h : wp_X_register W E [a1] S (fun r S1 => post 0 (gx_set 150 0 r (ljx S S1))) (fun X S1 => (X = xE1 ∧ post 1 (ljx S S1)))) : LMetI l yL_register (Cond.codeWith yL_register cL_register 4 (some .int) [(0, 9, 12, 13)] :: wsA) ({ frames := 7, cells := 1, slots := 6, locals := 121 }) (dC, dI) gx_cl (ltys cI cZ cL) (lw cI cZ cL o o' oo W E) [.ref (o 0), .int a1, .ref oo] S post := by
  refine gl_metL (by decide) wsA_good (Nat.le_of_ble_eq_true rfl) ?_
  intro p e s m args below meth c A C hr hlocks hZ hT
  refine gx_aload_n C dL_register_0 2 rfl rfl ?_
  refine gx_iconst (v := 0) C dL_register_1 (by decide) ?_
  refine gx_aload_n C dL_register_2 0 rfl rfl ?_
  refine gx_iload_n C dL_register_3 1 rfl rfl ?_
  refine gl_callXXi (As := [.int a1]) (rest := [.int 0, .ref oo]) C hZ.1 (mt_X_register l hl dC dI cI cZ o W E _ _ _ _  h) (gl_cwV C 1 ln_L_23 im_X_register se_X_register in_CountedObjects cd_X_register rfl rfl (by decide +kernel) ⟨Nat.le_of_ble_eq_true rfl, Nat.le_of_ble_eq_true rfl⟩) rfl (Nat.le_of_ble_eq_true rfl) dL_register_4 rfl ⟨Nat.le_of_ble_eq_true rfl, Nat.le_of_ble_eq_true rfl⟩ (fun X S1 hs => ?_) (fun r S1 hs => ?_)
  · obtain ⟨rfl, hs⟩ := hs
    refine gl_catch C hT [] ⟨0, 9, 12, 13⟩ [] rfl (fun z hz => nomatch hz) (by decide) (by decide) cl_L_13 hZ.1.1 (fun q => ?_)
    refine gl_astore_n (L' := [(3, .ref q), (0, .ref (o 0)), (1, .int a1), (2, .ref oo)]) C dL_register_12 rfl (by decide) rfl ?_
    refine gx_iconst (v := 1) C dL_register_13 (by decide) ?_
    exact gl_iret C hr hlocks dL_register_14 hs
  · refine gl_i2l C dL_register_7 ?_
    refine gl_lastore C dL_register_8 ?_
    refine gx_goto C dL_register_9 15 rfl ?_
    refine gx_iconst (v := 0) C dL_register_15 (by decide) ?_
    exact gl_iret C hr hlocks dL_register_16 hs
theorem cw_L_fetch : Cond.codeWith yL_fetch cL_fetch 5 (some .int) [(0, 10, 13, 15), (0, 10, 17, 13)] ∈ wsA := wsA_in (i := 340) (by decide +kernel) (by decide +kernel)
theorem dL_fetch_0 : decode cL_fetch 0 = .ok (.aload_n 3, 1) := by decide +kernel
theorem dL_fetch_1 : decode cL_fetch 1 = .ok (.iconst 0, 1) := by decide +kernel
theorem dL_fetch_2 : decode cL_fetch 2 = .ok (.aload_n 0, 1) := by decide +kernel
theorem dL_fetch_3 : decode cL_fetch 3 = .ok (.iload_n 1, 1) := by decide +kernel
theorem dL_fetch_4 : decode cL_fetch 4 = .ok (.iload_n 2, 1) := by decide +kernel
theorem dL_fetch_5 : decode cL_fetch 5 = .ok (.invokevirtual 27, 3) := by decide +kernel
theorem dL_fetch_8 : decode cL_fetch 8 = .ok (.i2l, 1) := by decide +kernel
theorem dL_fetch_9 : decode cL_fetch 9 = .ok (.lastore, 1) := by decide +kernel
theorem dL_fetch_10 : decode cL_fetch 10 = .ok (.goto 11, 3) := by decide +kernel
theorem dL_fetch_13 : decode cL_fetch 13 = .ok (.astore 4, 2) := by decide +kernel
theorem dL_fetch_15 : decode cL_fetch 15 = .ok (.iconst 1, 1) := by decide +kernel
theorem dL_fetch_16 : decode cL_fetch 16 = .ok (.ireturn, 1) := by decide +kernel
theorem dL_fetch_17 : decode cL_fetch 17 = .ok (.astore 4, 2) := by decide +kernel
theorem dL_fetch_19 : decode cL_fetch 19 = .ok (.iconst 2, 1) := by decide +kernel
theorem dL_fetch_20 : decode cL_fetch 20 = .ok (.ireturn, 1) := by decide +kernel
theorem dL_fetch_21 : decode cL_fetch 21 = .ok (.iconst 0, 1) := by decide +kernel
theorem dL_fetch_22 : decode cL_fetch 22 = .ok (.ireturn, 1) := by decide +kernel
set_option maxHeartbeats 4000000 in
set_option maxRecDepth 100000 in
theorem mt_L_fetch (l : Launch) (hl : l.stackTraces = false) (dC : Nat → ClassId) (dI : Nat → Nat → Nat) (cI cZ cL : ClassId) (o o' : Nat → Nat) (oo W E : Nat) (a1 : Int32) (a2 : Int32) (S : GS) (post : Int32 → GS → Prop) (h : wp_X_fetch W E [a1, a2] S (fun r S1 => post 0 (gx_set 150 0 r (ljx S S1))) (fun X S1 => (X = xE2 ∧ post 1 (ljx S S1)) ∨ (X = xE1 ∧ post 2 (ljx S S1)))) : LMetI l yL_fetch (Cond.codeWith yL_fetch cL_fetch 5 (some .int) [(0, 10, 13, 15), (0, 10, 17, 13)] :: wsA) ({ frames := 7, cells := 1, slots := 6, locals := 122 }) (dC, dI) gx_cl (ltys cI cZ cL) (lw cI cZ cL o o' oo W E) [.ref (o 0), .int a1, .int a2, .ref oo] S post := by
  refine gl_metL (by decide) wsA_good (Nat.le_of_ble_eq_true rfl) ?_
  intro p e s m args below meth c A C hr hlocks hZ hT
  refine gx_aload_n C dL_fetch_0 3 rfl rfl ?_
  refine gx_iconst (v := 0) C dL_fetch_1 (by decide) ?_
  refine gx_aload_n C dL_fetch_2 0 rfl rfl ?_
  refine gx_iload_n C dL_fetch_3 1 rfl rfl ?_
  refine gx_iload_n C dL_fetch_4 2 rfl rfl ?_
  refine gl_callXXi (As := [.int a1, .int a2]) (rest := [.int 0, .ref oo]) C hZ.1 (mt_X_fetch l hl dC dI cI cZ o W E _ _ _ _ _  h) (gl_cwV C 2 ln_L_27 im_X_fetch se_X_fetch in_CountedObjects cd_X_fetch rfl rfl (by decide +kernel) ⟨Nat.le_of_ble_eq_true rfl, Nat.le_of_ble_eq_true rfl⟩) rfl (Nat.le_of_ble_eq_true rfl) dL_fetch_5 rfl ⟨Nat.le_of_ble_eq_true rfl, Nat.le_of_ble_eq_true rfl⟩ (fun X S1 hs => ?_) (fun r S1 hs => ?_)
  · rcases hs with ⟨rfl, hs⟩ | ⟨rfl, hs⟩
    · refine gl_catch C hT [] ⟨0, 10, 13, 15⟩ [⟨0, 10, 17, 13⟩] rfl (fun z hz => nomatch hz) (by decide) (by decide) cl_L_15 hZ.1.2.1 (fun q => ?_)
      refine gl_astore (L' := [(4, .ref q), (0, .ref (o 0)), (1, .int a1), (2, .int a2), (3, .ref oo)]) C dL_fetch_13 (by decide) rfl ?_
      refine gx_iconst (v := 1) C dL_fetch_15 (by decide) ?_
      exact gl_iret C hr hlocks dL_fetch_16 hs
    · refine gl_catch C hT [⟨0, 10, 13, 15⟩] ⟨0, 10, 17, 13⟩ [] rfl (List.forall_mem_cons.mpr ⟨⟨by decide, xE2, cl_L_15, hZ.2.2.2.2⟩, (fun z hz => nomatch hz)⟩) (by decide) (by decide) cl_L_13 hZ.1.1 (fun q => ?_)
      refine gl_astore (L' := [(4, .ref q), (0, .ref (o 0)), (1, .int a1), (2, .int a2), (3, .ref oo)]) C dL_fetch_17 (by decide) rfl ?_
      refine gx_iconst (v := 2) C dL_fetch_19 (by decide) ?_
      exact gl_iret C hr hlocks dL_fetch_20 hs
  · refine gl_i2l C dL_fetch_8 ?_
    refine gl_lastore C dL_fetch_9 ?_
    refine gx_goto C dL_fetch_10 21 rfl ?_
    refine gx_iconst (v := 0) C dL_fetch_21 (by decide) ?_
    exact gl_iret C hr hlocks dL_fetch_22 hs
theorem cw_L_store : Cond.codeWith yL_store cL_store 6 (some .int) [(0, 12, 15, 15), (0, 12, 19, 13)] ∈ wsA := wsA_in (i := 355) (by decide +kernel) (by decide +kernel)
theorem dL_store_0 : decode cL_store 0 = .ok (.aload 4, 2) := by decide +kernel
theorem dL_store_2 : decode cL_store 2 = .ok (.iconst 0, 1) := by decide +kernel
theorem dL_store_3 : decode cL_store 3 = .ok (.aload_n 0, 1) := by decide +kernel
theorem dL_store_4 : decode cL_store 4 = .ok (.iload_n 1, 1) := by decide +kernel
theorem dL_store_5 : decode cL_store 5 = .ok (.iload_n 2, 1) := by decide +kernel
theorem dL_store_6 : decode cL_store 6 = .ok (.iload_n 3, 1) := by decide +kernel
theorem dL_store_7 : decode cL_store 7 = .ok (.invokevirtual 30, 3) := by decide +kernel
theorem dL_store_10 : decode cL_store 10 = .ok (.i2l, 1) := by decide +kernel
theorem dL_store_11 : decode cL_store 11 = .ok (.lastore, 1) := by decide +kernel
theorem dL_store_12 : decode cL_store 12 = .ok (.goto 11, 3) := by decide +kernel
theorem dL_store_15 : decode cL_store 15 = .ok (.astore 5, 2) := by decide +kernel
theorem dL_store_17 : decode cL_store 17 = .ok (.iconst 1, 1) := by decide +kernel
theorem dL_store_18 : decode cL_store 18 = .ok (.ireturn, 1) := by decide +kernel
theorem dL_store_19 : decode cL_store 19 = .ok (.astore 5, 2) := by decide +kernel
theorem dL_store_21 : decode cL_store 21 = .ok (.iconst 2, 1) := by decide +kernel
theorem dL_store_22 : decode cL_store 22 = .ok (.ireturn, 1) := by decide +kernel
theorem dL_store_23 : decode cL_store 23 = .ok (.iconst 0, 1) := by decide +kernel
theorem dL_store_24 : decode cL_store 24 = .ok (.ireturn, 1) := by decide +kernel
set_option maxHeartbeats 4000000 in
set_option maxRecDepth 100000 in
theorem mt_L_store (l : Launch) (hl : l.stackTraces = false) (dC : Nat → ClassId) (dI : Nat → Nat → Nat) (cI cZ cL : ClassId) (o o' : Nat → Nat) (oo W E : Nat) (a1 : Int32) (a2 : Int32) (a3 : Int32) (S : GS) (post : Int32 → GS → Prop) (h : wp_X_store W E [a1, a2, a3] S (fun r S1 => post 0 (gx_set 150 0 r (ljx S S1))) (fun X S1 => (X = xE2 ∧ post 1 (ljx S S1)) ∨ (X = xE1 ∧ post 2 (ljx S S1)))) : LMetI l yL_store (Cond.codeWith yL_store cL_store 6 (some .int) [(0, 12, 15, 15), (0, 12, 19, 13)] :: wsA) ({ frames := 96, cells := 1, slots := 6, locals := 2407 }) (dC, dI) gx_cl (ltys cI cZ cL) (lw cI cZ cL o o' oo W E) [.ref (o 0), .int a1, .int a2, .int a3, .ref oo] S post := by
  refine gl_metL (by decide) wsA_good (Nat.le_of_ble_eq_true rfl) ?_
  intro p e s m args below meth c A C hr hlocks hZ hT
  refine gl_aload C dL_store_0 4 rfl ?_
  refine gx_iconst (v := 0) C dL_store_2 (by decide) ?_
  refine gx_aload_n C dL_store_3 0 rfl rfl ?_
  refine gx_iload_n C dL_store_4 1 rfl rfl ?_
  refine gx_iload_n C dL_store_5 2 rfl rfl ?_
  refine gx_iload_n C dL_store_6 3 rfl rfl ?_
  refine gl_callXXi (As := [.int a1, .int a2, .int a3]) (rest := [.int 0, .ref oo]) C hZ.1 (mt_X_store l hl dC dI cI cZ o W E _ _ _ _ _ _  h) (gl_cwV C 3 ln_L_30 im_X_store se_X_store in_CountedObjects cd_X_store rfl rfl (by decide +kernel) ⟨Nat.le_of_ble_eq_true rfl, Nat.le_of_ble_eq_true rfl⟩) rfl (Nat.le_of_ble_eq_true rfl) dL_store_7 rfl ⟨Nat.le_of_ble_eq_true rfl, Nat.le_of_ble_eq_true rfl⟩ (fun X S1 hs => ?_) (fun r S1 hs => ?_)
  · rcases hs with ⟨rfl, hs⟩ | ⟨rfl, hs⟩
    · refine gl_catch C hT [] ⟨0, 12, 15, 15⟩ [⟨0, 12, 19, 13⟩] rfl (fun z hz => nomatch hz) (by decide) (by decide) cl_L_15 hZ.1.2.1 (fun q => ?_)
      refine gl_astore (L' := [(5, .ref q), (0, .ref (o 0)), (1, .int a1), (2, .int a2), (3, .int a3), (4, .ref oo)]) C dL_store_15 (by decide) rfl ?_
      refine gx_iconst (v := 1) C dL_store_17 (by decide) ?_
      exact gl_iret C hr hlocks dL_store_18 hs
    · refine gl_catch C hT [⟨0, 12, 15, 15⟩] ⟨0, 12, 19, 13⟩ [] rfl (List.forall_mem_cons.mpr ⟨⟨by decide, xE2, cl_L_15, hZ.2.2.2.2⟩, (fun z hz => nomatch hz)⟩) (by decide) (by decide) cl_L_13 hZ.1.1 (fun q => ?_)
      refine gl_astore (L' := [(5, .ref q), (0, .ref (o 0)), (1, .int a1), (2, .int a2), (3, .int a3), (4, .ref oo)]) C dL_store_19 (by decide) rfl ?_
      refine gx_iconst (v := 2) C dL_store_21 (by decide) ?_
      exact gl_iret C hr hlocks dL_store_22 hs
  · refine gl_i2l C dL_store_10 ?_
    refine gl_lastore C dL_store_11 ?_
    refine gx_goto C dL_store_12 23 rfl ?_
    refine gx_iconst (v := 0) C dL_store_23 (by decide) ?_
    exact gl_iret C hr hlocks dL_store_24 hs
theorem cw_L_type : Cond.codeWith yL_type cL_type 4 (some .int) [(0, 9, 12, 15)] ∈ wsA := wsA_in (i := 362) (by decide +kernel) (by decide +kernel)
theorem dL_type_0 : decode cL_type 0 = .ok (.aload_n 2, 1) := by decide +kernel
theorem dL_type_1 : decode cL_type 1 = .ok (.iconst 0, 1) := by decide +kernel
theorem dL_type_2 : decode cL_type 2 = .ok (.aload_n 0, 1) := by decide +kernel
theorem dL_type_3 : decode cL_type 3 = .ok (.iload_n 1, 1) := by decide +kernel
theorem dL_type_4 : decode cL_type 4 = .ok (.invokevirtual 33, 3) := by decide +kernel
theorem dL_type_7 : decode cL_type 7 = .ok (.i2l, 1) := by decide +kernel
theorem dL_type_8 : decode cL_type 8 = .ok (.lastore, 1) := by decide +kernel
theorem dL_type_9 : decode cL_type 9 = .ok (.goto 6, 3) := by decide +kernel
theorem dL_type_12 : decode cL_type 12 = .ok (.astore_n 3, 1) := by decide +kernel
theorem dL_type_13 : decode cL_type 13 = .ok (.iconst 1, 1) := by decide +kernel
theorem dL_type_14 : decode cL_type 14 = .ok (.ireturn, 1) := by decide +kernel
theorem dL_type_15 : decode cL_type 15 = .ok (.iconst 0, 1) := by decide +kernel
theorem dL_type_16 : decode cL_type 16 = .ok (.ireturn, 1) := by decide +kernel
set_option maxHeartbeats 4000000 in
set_option maxRecDepth 100000 in
theorem mt_L_type (l : Launch) (hl : l.stackTraces = false) (dC : Nat → ClassId) (dI : Nat → Nat → Nat) (cI cZ cL : ClassId) (o o' : Nat → Nat) (oo W E : Nat) (a1 : Int32) (S : GS) (post : Int32 → GS → Prop) (h : wp_X_type W E [a1] S (fun r S1 => post 0 (gx_set 150 0 r (ljx S S1))) (fun X S1 => (X = xE2 ∧ post 1 (ljx S S1)))) : LMetI l yL_type (Cond.codeWith yL_type cL_type 4 (some .int) [(0, 9, 12, 15)] :: wsA) ({ frames := 7, cells := 1, slots := 6, locals := 121 }) (dC, dI) gx_cl (ltys cI cZ cL) (lw cI cZ cL o o' oo W E) [.ref (o 0), .int a1, .ref oo] S post := by
  refine gl_metL (by decide) wsA_good (Nat.le_of_ble_eq_true rfl) ?_
  intro p e s m args below meth c A C hr hlocks hZ hT
  refine gx_aload_n C dL_type_0 2 rfl rfl ?_
  refine gx_iconst (v := 0) C dL_type_1 (by decide) ?_
  refine gx_aload_n C dL_type_2 0 rfl rfl ?_
  refine gx_iload_n C dL_type_3 1 rfl rfl ?_
  refine gl_callXXi (As := [.int a1]) (rest := [.int 0, .ref oo]) C hZ.1 (mt_X_type l hl dC dI cI cZ o W E _ _ _ _  h) (gl_cwV C 1 ln_L_33 im_X_type se_X_type in_CountedObjects cd_X_type rfl rfl (by decide +kernel) ⟨Nat.le_of_ble_eq_true rfl, Nat.le_of_ble_eq_true rfl⟩) rfl (Nat.le_of_ble_eq_true rfl) dL_type_4 rfl ⟨Nat.le_of_ble_eq_true rfl, Nat.le_of_ble_eq_true rfl⟩ (fun X S1 hs => ?_) (fun r S1 hs => ?_)
  · obtain ⟨rfl, hs⟩ := hs
    refine gl_catch C hT [] ⟨0, 9, 12, 15⟩ [] rfl (fun z hz => nomatch hz) (by decide) (by decide) cl_L_15 hZ.1.2.1 (fun q => ?_)
    refine gl_astore_n (L' := [(3, .ref q), (0, .ref (o 0)), (1, .int a1), (2, .ref oo)]) C dL_type_12 rfl (by decide) rfl ?_
    refine gx_iconst (v := 1) C dL_type_13 (by decide) ?_
    exact gl_iret C hr hlocks dL_type_14 hs
  · refine gl_i2l C dL_type_7 ?_
    refine gl_lastore C dL_type_8 ?_
    refine gx_goto C dL_type_9 15 rfl ?_
    refine gx_iconst (v := 0) C dL_type_15 (by decide) ?_
    exact gl_iret C hr hlocks dL_type_16 hs
theorem cw_L_fields : Cond.codeWith yL_fields cL_fields 4 (some .int) [(0, 9, 12, 15)] ∈ wsA := wsA_in (i := 369) (by decide +kernel) (by decide +kernel)
theorem dL_fields_0 : decode cL_fields 0 = .ok (.aload_n 2, 1) := by decide +kernel
theorem dL_fields_1 : decode cL_fields 1 = .ok (.iconst 0, 1) := by decide +kernel
theorem dL_fields_2 : decode cL_fields 2 = .ok (.aload_n 0, 1) := by decide +kernel
theorem dL_fields_3 : decode cL_fields 3 = .ok (.iload_n 1, 1) := by decide +kernel
theorem dL_fields_4 : decode cL_fields 4 = .ok (.invokevirtual 36, 3) := by decide +kernel
theorem dL_fields_7 : decode cL_fields 7 = .ok (.i2l, 1) := by decide +kernel
theorem dL_fields_8 : decode cL_fields 8 = .ok (.lastore, 1) := by decide +kernel
theorem dL_fields_9 : decode cL_fields 9 = .ok (.goto 6, 3) := by decide +kernel
theorem dL_fields_12 : decode cL_fields 12 = .ok (.astore_n 3, 1) := by decide +kernel
theorem dL_fields_13 : decode cL_fields 13 = .ok (.iconst 1, 1) := by decide +kernel
theorem dL_fields_14 : decode cL_fields 14 = .ok (.ireturn, 1) := by decide +kernel
theorem dL_fields_15 : decode cL_fields 15 = .ok (.iconst 0, 1) := by decide +kernel
theorem dL_fields_16 : decode cL_fields 16 = .ok (.ireturn, 1) := by decide +kernel
set_option maxHeartbeats 4000000 in
set_option maxRecDepth 100000 in
theorem mt_L_fields (l : Launch) (hl : l.stackTraces = false) (dC : Nat → ClassId) (dI : Nat → Nat → Nat) (cI cZ cL : ClassId) (o o' : Nat → Nat) (oo W E : Nat) (a1 : Int32) (S : GS) (post : Int32 → GS → Prop) (h : wp_X_fields W E [a1] S (fun r S1 => post 0 (gx_set 150 0 r (ljx S S1))) (fun X S1 => (X = xE2 ∧ post 1 (ljx S S1)))) : LMetI l yL_fields (Cond.codeWith yL_fields cL_fields 4 (some .int) [(0, 9, 12, 15)] :: wsA) ({ frames := 7, cells := 1, slots := 6, locals := 121 }) (dC, dI) gx_cl (ltys cI cZ cL) (lw cI cZ cL o o' oo W E) [.ref (o 0), .int a1, .ref oo] S post := by
  refine gl_metL (by decide) wsA_good (Nat.le_of_ble_eq_true rfl) ?_
  intro p e s m args below meth c A C hr hlocks hZ hT
  refine gx_aload_n C dL_fields_0 2 rfl rfl ?_
  refine gx_iconst (v := 0) C dL_fields_1 (by decide) ?_
  refine gx_aload_n C dL_fields_2 0 rfl rfl ?_
  refine gx_iload_n C dL_fields_3 1 rfl rfl ?_
  refine gl_callXXi (As := [.int a1]) (rest := [.int 0, .ref oo]) C hZ.1 (mt_X_fields l hl dC dI cI cZ o W E _ _ _ _  h) (gl_cwV C 1 ln_L_36 im_X_fields se_X_fields in_CountedObjects cd_X_fields rfl rfl (by decide +kernel) ⟨Nat.le_of_ble_eq_true rfl, Nat.le_of_ble_eq_true rfl⟩) rfl (Nat.le_of_ble_eq_true rfl) dL_fields_4 rfl ⟨Nat.le_of_ble_eq_true rfl, Nat.le_of_ble_eq_true rfl⟩ (fun X S1 hs => ?_) (fun r S1 hs => ?_)
  · obtain ⟨rfl, hs⟩ := hs
    refine gl_catch C hT [] ⟨0, 9, 12, 15⟩ [] rfl (fun z hz => nomatch hz) (by decide) (by decide) cl_L_15 hZ.1.2.1 (fun q => ?_)
    refine gl_astore_n (L' := [(3, .ref q), (0, .ref (o 0)), (1, .int a1), (2, .ref oo)]) C dL_fields_12 rfl (by decide) rfl ?_
    refine gx_iconst (v := 1) C dL_fields_13 (by decide) ?_
    exact gl_iret C hr hlocks dL_fields_14 hs
  · refine gl_i2l C dL_fields_7 ?_
    refine gl_lastore C dL_fields_8 ?_
    refine gx_goto C dL_fields_9 15 rfl ?_
    refine gx_iconst (v := 0) C dL_fields_15 (by decide) ?_
    exact gl_iret C hr hlocks dL_fields_16 hs
theorem cw_L_become : Cond.codeWith yL_become cL_become 4 (some .int) [(0, 6, 9, 15)] ∈ wsA := wsA_in (i := 376) (by decide +kernel) (by decide +kernel)
theorem dL_become_0 : decode cL_become 0 = .ok (.aload_n 0, 1) := by decide +kernel
theorem dL_become_1 : decode cL_become 1 = .ok (.iload_n 1, 1) := by decide +kernel
theorem dL_become_2 : decode cL_become 2 = .ok (.iload_n 2, 1) := by decide +kernel
theorem dL_become_3 : decode cL_become 3 = .ok (.invokevirtual 39, 3) := by decide +kernel
theorem dL_become_6 : decode cL_become 6 = .ok (.goto 6, 3) := by decide +kernel
theorem dL_become_9 : decode cL_become 9 = .ok (.astore_n 3, 1) := by decide +kernel
theorem dL_become_10 : decode cL_become 10 = .ok (.iconst 1, 1) := by decide +kernel
theorem dL_become_11 : decode cL_become 11 = .ok (.ireturn, 1) := by decide +kernel
theorem dL_become_12 : decode cL_become 12 = .ok (.iconst 0, 1) := by decide +kernel
theorem dL_become_13 : decode cL_become 13 = .ok (.ireturn, 1) := by decide +kernel
set_option maxHeartbeats 4000000 in
set_option maxRecDepth 100000 in
theorem mt_L_become (l : Launch) (hl : l.stackTraces = false) (dC : Nat → ClassId) (dI : Nat → Nat → Nat) (cI cZ cL : ClassId) (o o' : Nat → Nat) (oo W E : Nat) (a1 : Int32) (a2 : Int32) (S : GS) (post : Int32 → GS → Prop) (h : wp_X_become W E [a1, a2] S (fun S1 => post 0 (ljx S S1)) (fun X S1 => (X = xE2 ∧ post 1 (ljx S S1)))) : LMetI l yL_become (Cond.codeWith yL_become cL_become 4 (some .int) [(0, 6, 9, 15)] :: wsA) ({ frames := 7, cells := 1, slots := 6, locals := 123 }) (dC, dI) gx_cl (ltys cI cZ cL) (lw cI cZ cL o o' oo W E) [.ref (o 0), .int a1, .int a2] S post := by
  refine gl_metL (by decide) wsA_good (Nat.le_of_ble_eq_true rfl) ?_
  intro p e s m args below meth c A C hr hlocks hZ hT
  refine gx_aload_n C dL_become_0 0 rfl rfl ?_
  refine gx_iload_n C dL_become_1 1 rfl rfl ?_
  refine gx_iload_n C dL_become_2 2 rfl rfl ?_
  refine gl_callXXv (As := [.int a1, .int a2]) (rest := []) C hZ.1 (mt_X_become l hl dC dI cI cZ o W E _ _ _ _ _  h) (gl_cwV C 2 ln_L_39 im_X_become se_X_become in_CountedObjects cd_X_become rfl rfl (by decide +kernel) ⟨Nat.le_of_ble_eq_true rfl, Nat.le_of_ble_eq_true rfl⟩) rfl (Nat.le_of_ble_eq_true rfl) dL_become_3 rfl ⟨Nat.le_of_ble_eq_true rfl, Nat.le_of_ble_eq_true rfl⟩ (fun X S1 hs => ?_) (fun S1 hs => ?_)
  · obtain ⟨rfl, hs⟩ := hs
    refine gl_catch C hT [] ⟨0, 6, 9, 15⟩ [] rfl (fun z hz => nomatch hz) (by decide) (by decide) cl_L_15 hZ.1.2.1 (fun q => ?_)
    refine gl_astore_n (L' := [(3, .ref q), (0, .ref (o 0)), (1, .int a1), (2, .int a2)]) C dL_become_9 rfl (by decide) rfl ?_
    refine gx_iconst (v := 1) C dL_become_10 (by decide) ?_
    exact gl_iret C hr hlocks dL_become_11 hs
  · refine gx_goto C dL_become_6 12 rfl ?_
    refine gx_iconst (v := 0) C dL_become_12 (by decide) ?_
    exact gl_iret C hr hlocks dL_become_13 hs
