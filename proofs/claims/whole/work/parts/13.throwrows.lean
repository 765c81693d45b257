/-! Methods that may throw: contracts and rows over a world. -/
abbrev xnames : List String := ["java/lang/RuntimeException", "java/lang/Exception"]
abbrev xE1 : String := "java/lang/IndexOutOfBoundsException"
abbrev xE2 : String := "java/lang/IllegalArgumentException"
abbrev xE3 : String := "java/lang/IllegalStateException"
abbrev xbad (cls : String) : List Cond := [Cond.castable cls cls, Cond.declares (Bundle.init0 "java/lang/RuntimeException"), Cond.declares (Bundle.init0 "java/lang/Exception"), Cond.declares (Bundle.init0 Bundle.tN)]
theorem cl_X_61 : Cond.classLink RX 61 xE1 ∈ wsA := wsA_in (i := 185) (by decide +kernel) (by decide +kernel)
theorem cl_X_67 : Cond.classLink RX 67 xE2 ∈ wsA := wsA_in (i := 252) (by decide +kernel) (by decide +kernel)
theorem cl_X_77 : Cond.classLink RX 77 xE3 ∈ wsA := wsA_in (i := 293) (by decide +kernel) (by decide +kernel)
theorem ha_1 : ∀ w ∈ (vx_at0 RX 63 xE1 xnames).filter goodWord, w ∈ wsA := by decide +kernel
theorem ha_2 : ∀ w ∈ (vx_at0 RX 69 xE2 xnames).filter goodWord, w ∈ wsA := by decide +kernel
theorem ha_3 : ∀ w ∈ (vx_at0 RX 79 xE3 xnames).filter goodWord, w ∈ wsA := by decide +kernel
theorem hb_1 : ∀ w ∈ (vx_at0 RX 63 xE1 xnames).filter (fun w => !goodWord w), w ∈ xbad xE1 := by decide +kernel
theorem hb_2 : ∀ w ∈ (vx_at0 RX 69 xE2 xnames).filter (fun w => !goodWord w), w ∈ xbad xE2 := by decide +kernel
theorem hb_3 : ∀ w ∈ (vx_at0 RX 79 xE3 xnames).filter (fun w => !goodWord w), w ∈ xbad xE3 := by decide +kernel
theorem hg_1 : ∀ w ∈ Cond.classLink RX 61 xE1 :: Cond.initialized xE1 :: vx_at0 RX 63 xE1 xnames, vx_ot w = true := by decide +kernel
theorem hg_2 : ∀ w ∈ Cond.classLink RX 67 xE2 :: Cond.initialized xE2 :: vx_at0 RX 69 xE2 xnames, vx_ot w = true := by decide +kernel
theorem hg_3 : ∀ w ∈ Cond.classLink RX 77 xE3 :: Cond.initialized xE3 :: vx_at0 RX 79 xE3 xnames, vx_ot w = true := by decide +kernel
/-- what a throw needs of the start, and the one private field that is read across the nest -/
def ZX (A : Nat → Prop) (U : State) : Prop :=
  va_Nw (.castable xE1 xE1) U ∧ va_Nw (.castable xE2 xE2) U ∧ va_Nw (.castable xE3 xE3) U ∧ vx_Zq Bundle.tN "UNASSIGNED_STACK" Bundle.steD A U U.heap ∧ vx_Zq Bundle.tN "SUPPRESSED_SENTINEL" Bundle.listD A U U.heap ∧ va_Nw (.fieldLinkNest RX 111 RF "held" "I" RX) U ∧ va_Nw (.declares (Bundle.init0 "java/lang/RuntimeException")) U ∧ va_Nw (.declares (Bundle.init0 "java/lang/Exception")) U ∧ va_Nw (.declares (Bundle.init0 Bundle.tN)) U
theorem ZX.calling {A : Nat → Prop} {U : State} (h : ZX A U) (g : JFrame) (mk : MethodId) (a : Array Value) : ZX A (U.calling g mk a) := by
  obtain ⟨h1, h2, h3, h4, h5, h6, h7, h8, h9⟩ := h
  exact ⟨va_Nw.same rfl rfl h1, va_Nw.same rfl rfl h2, va_Nw.same rfl rfl h3, vx_Zq.moved (u := U) (U := U.calling g mk a) (Vm.Alike.refl U.vm) h4, vx_Zq.moved (u := U) (U := U.calling g mk a) (Vm.Alike.refl U.vm) h5, va_Nw.same rfl rfl h6, va_Nw.same rfl rfl h7, va_Nw.same rfl rfl h8, va_Nw.same rfl rfl h9⟩
theorem ZX.to {A B : Nat → Prop} {s U : State} {H : Heap} {locs : List Loc} (h : ZX A s) (hW : s.WarmedH U.vm) (hU : U.heap = H) (hS : va_S A s.heap H locs) (hb : ∀ q, B q → A q) : ZX B U := by
  obtain ⟨h1, h2, h3, h4, h5, h6, h7, h8, h9⟩ := h
  exact ⟨h1.warmC hW, h2.warmC hW, h3.warmC hW, by rw [hU]; exact (vx_Zq.moved hW.alike (h4.kept hS.2.1)).narrow hb, by rw [hU]; exact (vx_Zq.moved hW.alike (h5.kept hS.2.1)).narrow hb, h6.warmF hW, h7.warmD hW, h8.warmD hW, h9.warmD hW⟩
/-- the exceptional end -/
abbrev GX (wd : GS → va_W) (D : va_G) (cl : List vw_C) (tys : List (ClassId × FieldType)) (A : Nat → Prop) (exc : String → GS → Prop) : String → State → State → Prop := vx_X (fun _ : GS => True) (fun E S' t => exc E S' ∧ GB wd D cl tys A S' t) A
def XMetI (l : Launch) (y : MethodName) (ws : List Cond) (rm : Room) (D : va_G) (cl : List vw_C) (tys : List (ClassId × FieldType)) (wd : GS → va_W) (av : List Value) (S : GS) (post : Int32 → GS → Prop) (exc : String → GS → Prop) : Prop :=
  ∀ sz : Nat, vx_Met l y ws rm (va_Pc av (fun U => GP wd D cl tys S sz U ∧ ZX (va_A (wd S) sz) U)) (va_Qi post (GB wd D cl tys (va_A (wd S) sz)) (va_A (wd S) sz)) (GX wd D cl tys (va_A (wd S) sz) exc) 1 6 (va_A (wd S) sz)
def XMetV (l : Launch) (y : MethodName) (ws : List Cond) (rm : Room) (D : va_G) (cl : List vw_C) (tys : List (ClassId × FieldType)) (wd : GS → va_W) (av : List Value) (S : GS) (post : GS → Prop) (exc : String → GS → Prop) : Prop :=
  ∀ sz : Nat, vx_Met l y ws rm (va_Pc av (fun U => GP wd D cl tys S sz U ∧ ZX (va_A (wd S) sz) U)) (va_Qv post (GB wd D cl tys (va_A (wd S) sz)) (va_A (wd S) sz)) (GX wd D cl tys (va_A (wd S) sz) exc) 1 6 (va_A (wd S) sz)
section GXT
variable {p : Program} {l : Launch} {e : Env} {R : Room} {s : State} {m : MethodId} {args : Array Value} {below : List Frame} {meth : Method} {c : Code} {Q : State → Prop}
variable {cc : ByteArray} {nL : Nat} {own : String} {Ts : List Cond} {D : va_G} {cl : List vw_C} {tys : List (ClassId × FieldType)} {A : Nat → Prop} {wd : GS → va_W}
variable {S : GS} {pc : Nat} {L : List (Nat × Value)} {st : List Value}
theorem gx_iretX (C : GC p s m args c cc nL own Ts D cl tys A) {post : Int32 → GS → Prop} {exc : String → GS → Prop} {r : Int32} (hr : meth.sig.returnType = some .int) (hlocks : meth.locks = false) (d : decode cc pc = .ok (.ireturn, 1)) (hp : post r S) : GV p l e R s m args below meth c (vx_MQ below (va_Qi post (GB wd D cl tys A) A) (GX wd D cl tys A exc) args s 1 6 A) nL D cl A wd S pc L [.int r] :=
  fun H locs ls h1 h2 h3 h4 => W.widen (Nat.zero_le _) (Nat.zero_le _) (vx_ret (W.iret C.1.1 C.1.2.1 hr (fun t ht hW => ⟨⟨r, S, rfl, hp, by rw [ht]; exact h2, va_K.moved hW.alike C.2.1, h3⟩, h4.F ht⟩) h4.2.2 d hlocks))
theorem gx_vretX (C : GC p s m args c cc nL own Ts D cl tys A) {post : GS → Prop} {exc : String → GS → Prop} (hr : meth.sig.returnType = none) (hlocks : meth.locks = false) (d : decode cc pc = .ok (.return_, 1)) (hp : post S) : GV p l e R s m args below meth c (vx_MQ below (va_Qv post (GB wd D cl tys A) A) (GX wd D cl tys A exc) args s 1 6 A) nL D cl A wd S pc L [] :=
  fun H locs ls h1 h2 h3 h4 => W.widen (Nat.zero_le _) (Nat.zero_le _) (vx_ret (W.vret C.1.1 C.1.2.1 hr (fun t ht hW => ⟨⟨S, rfl, hp, by rw [ht]; exact h2, va_K.moved hW.alike C.2.1, h3⟩, h4.F ht⟩) h4.2.2 d hlocks))
theorem gx_throw (C : GC p s m args c cc nL RX wsA D cl tys A) (hZ : ZX A s) (hl : l.stackTraces = false) (hout : ∀ x ∈ c.exceptionTable.toList, False) (hlocks : meth.locks = false) {Qc : Array Value → State → Outcome → State → Prop} {exc : String → GS → Prop} {cls : String} {ik ic : Nat}
    (hk : Cond.classLink RX ik cls ∈ wsA) (hini : Cond.initialized cls ∈ wsA) (hcls : Bundle.fit cls = true) (hnm : ∀ n ∈ xnames, Bundle.fit n = true) (h1 : ∀ w ∈ (vx_at0 RX ic cls xnames).filter goodWord, w ∈ wsA) (h2 : ∀ w ∈ (vx_at0 RX ic cls xnames).filter (fun w => !goodWord w), w ∈ xbad cls) (h3 : ∀ w ∈ Cond.classLink RX ik cls :: Cond.initialized cls :: vx_at0 RX ic cls xnames, vx_ot w = true) (hc : va_Nw (.castable cls cls) s)
    (hf : 5 < R.frames) (hlo : (st.map fun v => v.category).sum + 81 ≤ R.locals) (hcl : 1 ≤ R.cells) (hsl : 6 ≤ R.slots)
    (d0 : decode cc pc = .ok (.new ik, 3)) (d3 : decode cc (pc + 3) = .ok (.dup, 1)) (d4 : decode cc (pc + 4) = .ok (.invokespecial ic, 3)) (d7 : decode cc (pc + 7) = .ok (.athrow, 1)) (hp : exc cls S) :
    GV p l e R s m args below meth c (vx_MQ below Qc (GX wd D cl tys A exc) args s 1 6 A) nL D cl A wd S pc L st := by
  intro H locs ls g1 g2 g3 g4
  have hwd := C.1.2.2.2.2
  refine vx_throw0 C.1.1 C.1.2.1 hl (own := RX) (cls := cls) (names := xnames) (ik := ik) (ic := ic) (A := A) C.1.2.2.2.1 hcls hnm (hwd _ hk) (hwd _ hini) (vx_hat (fun w hw => hwd w (h1 w hw)) h2 (vx_c (va_Nw.use rfl hc) (vx_c (va_Nw.use rfl hZ.2.2.2.2.2.2.1) (vx_c (va_Nw.use rfl hZ.2.2.2.2.2.2.2.1) (vx_c (va_Nw.use rfl hZ.2.2.2.2.2.2.2.2) vx_n))))) h3 hZ.2.2.2.1 hZ.2.2.2.2.1 g4 (g1.1.trans C.1.2.2.1.symm) d0 d3 d4 d7 (fun x hx => (hout x hx).elim) hf hlo (by omega) (by omega) hlocks (fun t ha hz hk9 => ?_) g4.2.2 (Nat.le_refl _) (Nat.le_refl _)
  refine ⟨S, trivial, ⟨hp, g2.kept (fun k q hq => hk9 q.1 (g2 k q hq).lt), va_K.moved ha C.2.1, g3⟩, Nat.le_trans g4.1 hz, fun q h5 h6 => ?_⟩
  rw [hk9 q (Nat.lt_of_lt_of_le h5 g4.1)]
  exact g4.2.1 q h5 h6
theorem gx_throw1 (C : GC p s m args c cc nL RX wsA D cl tys A) (hZ : ZX A s) (hl : l.stackTraces = false) (hout : ∀ x ∈ c.exceptionTable.toList, False) (hlocks : meth.locks = false) {Qc : Array Value → State → Outcome → State → Prop} {exc : String → GS → Prop} (hf : 5 < R.frames) (hlo : (st.map fun v => v.category).sum + 81 ≤ R.locals) (hcl : 1 ≤ R.cells) (hsl : 6 ≤ R.slots)
    (d0 : decode cc pc = .ok (.new 61, 3)) (d3 : decode cc (pc + 3) = .ok (.dup, 1)) (d4 : decode cc (pc + 4) = .ok (.invokespecial 63, 3)) (d7 : decode cc (pc + 7) = .ok (.athrow, 1)) (hp : exc xE1 S) : GV p l e R s m args below meth c (vx_MQ below Qc (GX wd D cl tys A exc) args s 1 6 A) nL D cl A wd S pc L st :=
  gx_throw C hZ hl hout hlocks cl_X_61 in_java_lang_IndexOutOfBoundsException (by decide) (by decide) ha_1 hb_1 hg_1 hZ.1 hf hlo hcl hsl d0 d3 d4 d7 hp
theorem gx_throw2 (C : GC p s m args c cc nL RX wsA D cl tys A) (hZ : ZX A s) (hl : l.stackTraces = false) (hout : ∀ x ∈ c.exceptionTable.toList, False) (hlocks : meth.locks = false) {Qc : Array Value → State → Outcome → State → Prop} {exc : String → GS → Prop} (hf : 5 < R.frames) (hlo : (st.map fun v => v.category).sum + 81 ≤ R.locals) (hcl : 1 ≤ R.cells) (hsl : 6 ≤ R.slots)
    (d0 : decode cc pc = .ok (.new 67, 3)) (d3 : decode cc (pc + 3) = .ok (.dup, 1)) (d4 : decode cc (pc + 4) = .ok (.invokespecial 69, 3)) (d7 : decode cc (pc + 7) = .ok (.athrow, 1)) (hp : exc xE2 S) : GV p l e R s m args below meth c (vx_MQ below Qc (GX wd D cl tys A exc) args s 1 6 A) nL D cl A wd S pc L st :=
  gx_throw C hZ hl hout hlocks cl_X_67 in_java_lang_IllegalArgumentException (by decide) (by decide) ha_2 hb_2 hg_2 hZ.2.1 hf hlo hcl hsl d0 d3 d4 d7 hp
theorem gx_throw3 (C : GC p s m args c cc nL RX wsA D cl tys A) (hZ : ZX A s) (hl : l.stackTraces = false) (hout : ∀ x ∈ c.exceptionTable.toList, False) (hlocks : meth.locks = false) {Qc : Array Value → State → Outcome → State → Prop} {exc : String → GS → Prop} (hf : 5 < R.frames) (hlo : (st.map fun v => v.category).sum + 81 ≤ R.locals) (hcl : 1 ≤ R.cells) (hsl : 6 ≤ R.slots)
    (d0 : decode cc pc = .ok (.new 77, 3)) (d3 : decode cc (pc + 3) = .ok (.dup, 1)) (d4 : decode cc (pc + 4) = .ok (.invokespecial 79, 3)) (d7 : decode cc (pc + 7) = .ok (.athrow, 1)) (hp : exc xE3 S) : GV p l e R s m args below meth c (vx_MQ below Qc (GX wd D cl tys A exc) args s 1 6 A) nL D cl A wd S pc L st :=
  gx_throw C hZ hl hout hlocks cl_X_77 in_java_lang_IllegalStateException (by decide) (by decide) ha_3 hb_3 hg_3 hZ.2.2.1 hf hlo hcl hsl d0 d3 d4 d7 hp
end GXT
theorem gx_metXI {l : Launch} {y : MethodName} {Ts : List Cond} {rm : Room} {cc : ByteArray} {maxL : Nat} {D : va_G} {cl : List vw_C} {tys : List (ClassId × FieldType)} {wd : GS → va_W} {av : List Value} {S : GS} {post : Int32 → GS → Prop} {exc : String → GS → Prop} {ret : Option FieldType} (hy : plainName y.cls = true) (hgood : ∀ w ∈ Ts, goodWord w = true) (hlen : (lg_sl av).length ≤ maxL)
    (body : ∀ (p : Program) (e : Env) (s : State) (m : MethodId) (args : Array Value) (below : List Frame) (meth : Method) (c : Code) (A : Nat → Prop), GC p s m args c cc maxL y.cls Ts D cl tys A → meth.sig.returnType = ret → meth.locks = false → ZX A s → (∀ x ∈ c.exceptionTable.toList, False) → GV p l e rm s m args below meth c (vx_MQ below (va_Qi post (GB wd D cl tys A) A) (GX wd D cl tys A exc) args s 1 6 A) maxL D cl A wd S 0 (lv_args 0 av) []) : XMetI l y (Cond.code y cc maxL ret :: Ts) rm D cl tys wd av S post exc := by
  intro sz
  refine vx_ofW (cc := cc) (maxL := maxL) (ret := ret) hy rfl ?_
  intro p e s m args below meth c s₁ B hml hout hv
  obtain ⟨rfl, ⟨hsz, hP, hK, hD0⟩, hZ⟩ := hv
  subst hsz
  rw [lg_entry_eq]
  exact body p e s m av.toArray below meth c (va_A (wd S) s.heap.size) ⟨⟨B.exec, B.bytes, hml, findClass_of_methodNamed B.named, fun w hw => atoms_spec (ws := Cond.code y cc maxL ret :: Ts) B.pre w (List.mem_cons_of_mem _ hw)⟩, hK, fun q h => Or.inr h, hgood⟩ B.returns B.notSynchronized hZ hout s.heap [] _ (lv_entry av hlen) hP hD0.self va_S.rf
theorem gx_metXV {l : Launch} {y : MethodName} {Ts : List Cond} {rm : Room} {cc : ByteArray} {maxL : Nat} {D : va_G} {cl : List vw_C} {tys : List (ClassId × FieldType)} {wd : GS → va_W} {av : List Value} {S : GS} {post : GS → Prop} {exc : String → GS → Prop} {ret : Option FieldType} (hy : plainName y.cls = true) (hgood : ∀ w ∈ Ts, goodWord w = true) (hlen : (lg_sl av).length ≤ maxL)
    (body : ∀ (p : Program) (e : Env) (s : State) (m : MethodId) (args : Array Value) (below : List Frame) (meth : Method) (c : Code) (A : Nat → Prop), GC p s m args c cc maxL y.cls Ts D cl tys A → meth.sig.returnType = ret → meth.locks = false → ZX A s → (∀ x ∈ c.exceptionTable.toList, False) → GV p l e rm s m args below meth c (vx_MQ below (va_Qv post (GB wd D cl tys A) A) (GX wd D cl tys A exc) args s 1 6 A) maxL D cl A wd S 0 (lv_args 0 av) []) : XMetV l y (Cond.code y cc maxL ret :: Ts) rm D cl tys wd av S post exc := by
  intro sz
  refine vx_ofW (cc := cc) (maxL := maxL) (ret := ret) hy rfl ?_
  intro p e s m args below meth c s₁ B hml hout hv
  obtain ⟨rfl, ⟨hsz, hP, hK, hD0⟩, hZ⟩ := hv
  subst hsz
  rw [lg_entry_eq]
  exact body p e s m av.toArray below meth c (va_A (wd S) s.heap.size) ⟨⟨B.exec, B.bytes, hml, findClass_of_methodNamed B.named, fun w hw => atoms_spec (ws := Cond.code y cc maxL ret :: Ts) B.pre w (List.mem_cons_of_mem _ hw)⟩, hK, fun q h => Or.inr h, hgood⟩ B.returns B.notSynchronized hZ hout s.heap [] _ (lv_entry av hlen) hP hD0.self va_S.rf
