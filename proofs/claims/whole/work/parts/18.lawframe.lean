/-! The law's world: the class's, the reference's, the array 'out'; rows for the law's methods. Rows of S: the class's below 150, out's number at 150, the reference's from 200 on. -/
def lm (S : GS) : GS := fun k => S (200 + k)
def lw (cI cZ cL : ClassId) (o o' : Nat → Nat) (oo W E : Nat) (S : GS) : va_W :=
  xw cI cZ o W E S ++ (mw cI cZ o' (lm S) ++ [(oo, .inl (cL, 1, .inr (.inl (vp_updL (fun _ => 0) 0 (S 150 0).toInt64))))])
def ljx (S S1 : GS) : GS := fun k => if k < 150 then S1 k else S k
def ljm (S S1 : GS) : GS := fun k => if 200 ≤ k then S1 (k - 200) else S k
abbrev ltys (cI cZ cL : ClassId) : List (ClassId × FieldType) := [(cI, .int), (cZ, .boolean), (cL, .long)]
theorem lw_ad {cI cZ cL : ClassId} {o o' : Nat → Nat} {oo W E : Nat} (S S' : GS) : (lw cI cZ cL o o' oo W E S').map (fun q => q.1) = (lw cI cZ cL o o' oo W E S).map (fun q => q.1) := by
  unfold lw
  rw [List.map_append, List.map_append, List.map_append, List.map_append, xw_ad S S', mw_ad (lm S) (lm S')]
  simp only [List.map_cons, List.map_nil]
abbrev lpx : List Nat := [0, 1, 2, 3, 4, 5, 6, 7, 8, 9]
abbrev lrx : List Nat := [10, 11, 12, 13, 14, 15, 16, 17, 18, 19, 20, 21, 22, 23]
abbrev lpm : List Nat := [10, 11, 12, 13, 14, 15, 16, 17, 18, 19, 20, 21, 22]
abbrev lrm : List Nat := [0, 1, 2, 3, 4, 5, 6, 7, 8, 9, 23]
theorem lw_jx {cI cZ cL : ClassId} {o o' : Nat → Nat} {oo W E : Nat} (S S1 : GS) : [14, 15, 16, 17, 18, 19, 20, 21, 22, 23, 0, 1, 2, 3, 4, 5, 6, 7, 8, 9, 10, 11, 12, 13].map (fun i => ((mw cI cZ o' (lm S) ++ [(oo, .inl (cL, 1, .inr (.inl (vp_updL (fun _ => 0) 0 (S 150 0).toInt64))))]) ++ xw cI cZ o W E S1)[i]?) = (lw cI cZ cL o o' oo W E (ljx S S1)).map some := rfl
theorem lw_jm {cI cZ cL : ClassId} {o o' : Nat → Nat} {oo W E : Nat} (S S1 : GS) : [0, 1, 2, 3, 4, 5, 6, 7, 8, 9, 11, 12, 13, 14, 15, 16, 17, 18, 19, 20, 21, 22, 23, 10].map (fun i => ((xw cI cZ o W E S ++ [(oo, .inl (cL, 1, .inr (.inl (vp_updL (fun _ => 0) 0 (S 150 0).toInt64))))]) ++ mw cI cZ o' S1)[i]?) = (lw cI cZ cL o o' oo W E (ljm S S1)).map some := rfl
theorem fm_of_map {ws ws' : va_W} {is : List Nat} (h : is.map (fun i => ws[i]?) = ws'.map some) : is.filterMap (fun i => ws[i]?) = ws' := by
  have h1 : is.filterMap (fun i => ws[i]?) = (is.map (fun i => ws[i]?)).filterMap id := by rw [List.filterMap_map]; rfl
  rw [h1, h, List.filterMap_map]
  have : (id ∘ some : Nat × va_E → Option (Nat × va_E)) = some := rfl
  rw [this, List.filterMap_some]
/-- what the law's helpers need of the start -/
def ZL (A : Nat → Prop) (U : State) : Prop := ZX A U ∧ va_Nc xE2 xE1 U ∧ va_Nc xE3 xE1 U ∧ va_Nc xE3 xE2 U ∧ va_Nc xE1 xE2 U
theorem ZL.calling {A : Nat → Prop} {U : State} (h : ZL A U) (g : JFrame) (mk : MethodId) (a : Array Value) : ZL A (U.calling g mk a) :=
  ⟨h.1.calling g mk a, h.2.1.moved (u := U) (U := U.calling g mk a) (Vm.Alike.refl U.vm), h.2.2.1.moved (u := U) (U := U.calling g mk a) (Vm.Alike.refl U.vm), h.2.2.2.1.moved (u := U) (U := U.calling g mk a) (Vm.Alike.refl U.vm), h.2.2.2.2.moved (u := U) (U := U.calling g mk a) (Vm.Alike.refl U.vm)⟩
theorem ZL.to {A B : Nat → Prop} {s U : State} {H : Heap} {locs : List Loc} (h : ZL A s) (hW : s.WarmedH U.vm) (hU : U.heap = H) (hS : va_S A s.heap H locs) (hb : ∀ q, B q → A q) : ZL B U :=
  ⟨h.1.to hW hU hS hb, h.2.1.moved hW.alike, h.2.2.1.moved hW.alike, h.2.2.2.1.moved hW.alike, h.2.2.2.2.moved hW.alike⟩
section GLA
variable {p : Program} {l : Launch} {e : Env} {R : Room} {s : State} {m : MethodId} {args : Array Value} {below : List Frame} {meth : Method} {c : Code} {Q : State → Prop}
variable {cc : ByteArray} {nL : Nat} {own : String} {Ts : List Cond} {D : va_G} {cl : List vw_C} {tys : List (ClassId × FieldType)} {A : Nat → Prop} {wd : GS → va_W}
variable {nc ns : Nat} {S : GS} {pc : Nat} {L L' : List (Nat × Value)} {st : List Value}
theorem gl_aload (C : GC p s m args c cc nL own Ts D cl tys A) {i x : Nat} (d : decode cc pc = .ok (.aload i, 2)) (j : Nat) (hj : L[j]? = some (i, .ref x)) (k : GW nc ns p l e R s m args below meth c Q nL D cl A wd S (pc + 2) L (.ref x :: st)) : GW nc ns p l e R s m args below meth c Q nL D cl A wd S pc L st :=
  fun H locs ls h1 h2 h3 h4 => lv_aload C.1.1 C.1.2.1 d (lv_at h1 j hj) (k H locs ls h1 h2 h3 h4)
theorem gl_astore (C : GC p s m args c cc nL own Ts D cl tys A) {i x : Nat} (d : decode cc pc = .ok (.astore i, 2)) (hn : i < nL) (hl : (i, Value.ref x) :: L.filter (fun q => !(q.1 == i) && !(q.1 + 1 == i && q.2.category == 2)) = L') (k : GW nc ns p l e R s m args below meth c Q nL D cl A wd S (pc + 2) L' st) : GW nc ns p l e R s m args below meth c Q nL D cl A wd S pc L (.ref x :: st) :=
  fun H locs _ h1 h2 h3 h4 => lv_astore C.1.1 C.1.2.1 d h1 hn hl (fun ls' h' => k H locs ls' h' h2 h3 h4)
theorem gl_astore_n (C : GC p s m args c cc nL own Ts D cl tys A) {f : Fin 4} {i x : Nat} (d : decode cc pc = .ok (.astore_n f, 1)) (hf : (f : Nat) = i) (hn : i < nL) (hl : (i, Value.ref x) :: L.filter (fun q => !(q.1 == i) && !(q.1 + 1 == i && q.2.category == 2)) = L') (k : GW nc ns p l e R s m args below meth c Q nL D cl A wd S (pc + 1) L' st) : GW nc ns p l e R s m args below meth c Q nL D cl A wd S pc L (.ref x :: st) :=
  fun H locs _ h1 h2 h3 h4 => lv_astore_n C.1.1 C.1.2.1 d hf h1 hn hl (fun ls' h' => k H locs ls' h' h2 h3 h4)
theorem gl_i2l (C : GC p s m args c cc nL own Ts D cl tys A) {x : Int32} (d : decode cc pc = .ok (.i2l, 1)) (k : GW nc ns p l e R s m args below meth c Q nL D cl A wd S (pc + 1) L (.long x.toInt64 :: st)) : GW nc ns p l e R s m args below meth c Q nL D cl A wd S pc L (.int x :: st) :=
  fun H locs ls h1 h2 h3 h4 => lv_i2l C.1.1 C.1.2.1 d rfl (k H locs ls h1 h2 h3 h4)
theorem gl_lcmp (C : GC p s m args c cc nL own Ts D cl tys A) {x y : Int64} (d : decode cc pc = .ok (.lcmp, 1)) (k : GW nc ns p l e R s m args below meth c Q nL D cl A wd S (pc + 1) L (.int (lg_cmp x y) :: st)) : GW nc ns p l e R s m args below meth c Q nL D cl A wd S pc L (.long y :: .long x :: st) :=
  fun H locs ls h1 h2 h3 h4 => W.lcmp C.1.1 C.1.2.1 d (k H locs ls h1 h2 h3 h4)
theorem gl_iret (C : GC p s m args c cc nL own Ts D cl tys A) {post : Int32 → GS → Prop} {r : Int32} (hr : meth.sig.returnType = some .int) (hlocks : meth.locks = false) (d : decode cc pc = .ok (.ireturn, 1)) (hp : post r S) : GW nc ns p l e R s m args below meth c (MQ below (va_Qi post (GB wd D cl tys A) A) args s nc ns A) nL D cl A wd S pc L [.int r] :=
  fun H locs ls h1 h2 h3 h4 => W.iret C.1.1 C.1.2.1 hr (fun t ht hW => ⟨⟨r, S, rfl, hp, by rw [ht]; exact h2, va_K.moved hW.alike C.2.1, h3⟩, h4.F ht⟩) h4.2.2 d hlocks
/-- an exception of the class E lies over the frame -/
def GT (nc ns : Nat) (p : Program) (l : Launch) (e : Env) (R : Room) (s : State) (m : MethodId) (args : Array Value) (below : List Frame) (meth : Method) (c : Code) (Q : State → Prop) (nL : Nat) (D : va_G) (cl : List vw_C) (A : Nat → Prop) (wd : GS → va_W) (S : GS) (pc : Nat) (L : List (Nat × Value)) (st : List Value) (E : String) : Prop :=
  ∀ (H : Heap) (locs : List Loc) (ls : Array Slot) (q : Nat) (ce : Cell), lv_has ls nL L → va_P D cl (wd S) H → va_D A (wd S) → va_S A s.heap H locs → H[q]? = some ce → ce.vm = .none → s.vm.findClass E = some ce.cls → vx_W p l e R s m args below meth c H locs nc ns Q (F0 m pc ls st) q
theorem gl_catch (C : GC p s m args c cc nL own Ts D cl tys A) {E : String} {hh : List (Nat × Nat × Nat × Nat)} (hT : c.exceptionTable.toList = tableOf hh) (pre : List ExceptionTableEntry) (x : ExceptionTableEntry) (suf : List ExceptionTableEntry) (hsplit : tableOf hh = pre ++ x :: suf)
    (hpass : ∀ z ∈ pre, z.catchType ≠ 0 ∧ ∃ nm : String, Cond.classLink own z.catchType nm ∈ Ts ∧ va_Nc E nm s) (hx : covers x pc = true) (h0 : x.catchType ≠ 0) (hlink : Cond.classLink own x.catchType E ∈ Ts) (hcast : va_Nw (.castable E E) s)
    (kk : ∀ q : Nat, GW nc ns p l e R s m args below meth c Q nL D cl A wd S x.handlerPc L [.ref q]) : GT nc ns p l e R s m args below meth c Q nL D cl A wd S pc L st E :=
  fun H locs ls q ce h1 h2 h3 h4 h5 h6 h7 => vx_catch C.1.2.2.2.1 pre x suf (hT.trans hsplit) (fun z hz => by
    obtain ⟨a1, nm, a2, a3⟩ := hpass z hz
    exact Or.inr ⟨a1, nm, C.1.2.2.2.2 _ a2, a3⟩) hx h0 (C.1.2.2.2.2 _ hlink) (va_Nw.use rfl hcast) h5 h6 h7 (kk q H locs ls h1 h2 h3 h4)
end GLA
section GLB
variable {p : Program} {l : Launch} {e : Env} {R : Room} {s : State} {m : MethodId} {args : Array Value} {below : List Frame} {meth : Method} {c : Code} {Q : State → Prop}
variable {cc : ByteArray} {nL : Nat} {own : String} {dC : Nat → ClassId} {dI : Nat → Nat → Nat} {cI cZ cL : ClassId} {o o' : Nat → Nat} {oo W E : Nat} {A : Nat → Prop}
variable {nc ns : Nat} {S : GS} {pc : Nat} {L : List (Nat × Value)} {st : List Value}
theorem gl_lastore (C : GC p s m args c cc nL own wsA (dC, dI) gx_cl (ltys cI cZ cL) A) {r : Int32} (d : decode cc pc = .ok (.lastore, 1)) (kk : GW nc ns p l e R s m args below meth c Q nL (dC, dI) gx_cl A (lw cI cZ cL o o' oo W E) (gx_set 150 0 r S) (pc + 1) L st) : GW nc ns p l e R s m args below meth c Q nL (dC, dI) gx_cl A (lw cI cZ cL o o' oo W E) S pc L (.long r.toInt64 :: .int 0 :: .ref oo :: st) := by
  intro H locs ls h1 h2 h3 h4
  refine va_last C.1.1 C.1.2.1 C.2.1 h2 h3 h4 23 2 rfl rfl (vp_in_nI (n := 0) (N := 1) (by decide) (by decide)) d (fun H1 locs1 g2 g3 g4 => ?_)
  have e1 : vp_updL (vp_updL (fun _ => 0) 0 (S 150 0).toInt64) ((0 : Int32).toNatClampNeg) r.toInt64 = vp_updL (fun _ => 0) 0 r.toInt64 := by
    funext j
    show vp_updL (vp_updL (fun _ => 0) 0 (S 150 0).toInt64) 0 r.toInt64 j = _
    by_cases hj : j = 0
    · subst hj; rw [pk_uLs, pk_uLs]
    · rw [pk_uLn hj, pk_uLn hj, pk_uLn hj]
  rw [e1] at g2 g3
  exact kk H1 locs1 ls h1 g2 g3 g4
theorem gl_laload (C : GC p s m args c cc nL own wsA (dC, dI) gx_cl (ltys cI cZ cL) A) (d : decode cc pc = .ok (.laload, 1)) (kk : GW nc ns p l e R s m args below meth c Q nL (dC, dI) gx_cl A (lw cI cZ cL o o' oo W E) S (pc + 1) L (.long (S 150 0).toInt64 :: st)) : GW nc ns p l e R s m args below meth c Q nL (dC, dI) gx_cl A (lw cI cZ cL o o' oo W E) S pc L (.int 0 :: .ref oo :: st) :=
  fun H locs ls h1 h2 h3 h4 => va_lald C.1.1 C.1.2.1 C.2.1 h2 23 2 rfl rfl (vp_in_nI (n := 0) (N := 1) (by decide) (by decide)) d (kk H locs ls h1 h2 h3 h4)
set_option maxRecDepth 20000 in
theorem gl_back (C : GC p s m args c cc nL own wsA (dC, dI) gx_cl (ltys cI cZ cL) A) {H H1 : Heap} {S1 : GS} (h2 : va_P (dC, dI) gx_cl (lw cI cZ cL o o' oo W E S) H) (h3 : va_D A (lw cI cZ cL o o' oo W E S)) (hFc : ∀ q, va_A (xw cI cZ o W E S) H.size q → A q) (hk : ∀ q : Nat, q < H.size → ¬ va_A (xw cI cZ o W E S) H.size q → H1[q]? = H[q]?) (hP1 : va_P (dC, dI) gx_cl (xw cI cZ o W E S1) H1) (hD1 : va_D (va_A (xw cI cZ o W E S) H.size) (xw cI cZ o W E S1)) : va_P (dC, dI) gx_cl (lw cI cZ cL o o' oo W E (ljx S S1)) H1 ∧ va_D A (lw cI cZ cL o o' oo W E (ljx S S1)) := by
  obtain ⟨hP2, hD2⟩ := va_join (wr := mw cI cZ o' (lm S) ++ [(oo, .inl (cL, 1, .inr (.inl (vp_updL (fun _ => 0) 0 (S 150 0).toInt64))))]) (w1 := xw cI cZ o W E S1) h2 h3 lpx lrx rfl rfl (by decide) (by decide) hk hFc hP1 hD1
  exact ⟨hP2.sub _ (fm_of_map (lw_jx S S1)), hD2.sub _ (by decide) (lw_jx S S1)⟩
set_option maxRecDepth 20000 in
theorem gl_backM (C : GC p s m args c cc nL own wsA (dC, dI) gx_cl (ltys cI cZ cL) A) {H H1 : Heap} {S1 : GS} (h2 : va_P (dC, dI) gx_cl (lw cI cZ cL o o' oo W E S) H) (h3 : va_D A (lw cI cZ cL o o' oo W E S)) (hFc : ∀ q, va_A (mw cI cZ o' (lm S)) H.size q → A q) (hk : ∀ q : Nat, q < H.size → ¬ va_A (mw cI cZ o' (lm S)) H.size q → H1[q]? = H[q]?) (hP1 : va_P (dC, dI) gx_cl (mw cI cZ o' S1) H1) (hD1 : va_D (va_A (mw cI cZ o' (lm S)) H.size) (mw cI cZ o' S1)) : va_P (dC, dI) gx_cl (lw cI cZ cL o o' oo W E (ljm S S1)) H1 ∧ va_D A (lw cI cZ cL o o' oo W E (ljm S S1)) := by
  obtain ⟨hP2, hD2⟩ := va_join (wr := xw cI cZ o W E S ++ [(oo, .inl (cL, 1, .inr (.inl (vp_updL (fun _ => 0) 0 (S 150 0).toInt64))))]) (w1 := mw cI cZ o' S1) h2 h3 lpm lrm rfl rfl (by decide) (by decide) hk hFc hP1 hD1
  exact ⟨hP2.sub _ (fm_of_map (lw_jm S S1)), hD2.sub _ (by decide) (lw_jm S S1)⟩
set_option maxRecDepth 20000 in
/-- a call on the class's object -/
theorem gl_callXi (C : GC p s m args c cc nL own wsA (dC, dI) gx_cl (ltys cI cZ cL) A) {y : MethodName} {rm : Room} {bytes : ByteArray} {maxL n index : Nat} {ret : Option FieldType} {As rest : List Value} {post : Int32 → GS → Prop} (hM : MetI l y (Cond.code y bytes maxL ret :: wsA) rm (dC, dI) gx_cl [(cI, .int), (cZ, .boolean)] (xw cI cZ o W E) (.ref (o 0) :: As) S post) (cw : CallW R s args own RX index y bytes maxL ret (Cond.code y bytes maxL ret :: wsA) rm 0 0 n) (hn : As.length = n) (hw : (rest.map fun v => v.category).sum ≤ 8) (d : decode cc pc = .ok (.invokevirtual index, 3)) {st0 : List Value} (hst : st0 = As.reverse ++ .ref (o 0) :: rest) (hcs : nc ≤ R.cells ∧ ns ≤ R.slots) (kk : ∀ (r : Int32) (S1 : GS), post r S1 → GW nc ns p l e R s m args below meth c Q nL (dC, dI) gx_cl A (lw cI cZ cL o o' oo W E) (ljx S S1) (pc + 3) L (.int r :: rest)) : GW nc ns p l e R s m args below meth c Q nL (dC, dI) gx_cl A (lw cI cZ cL o o' oo W E) S pc L st0 := by
  intro H locs ls h1 h2 h3 h4
  have hPc := h2.sub (ws' := xw cI cZ o W E S) lpx rfl
  have hDc := h3.sub (ws' := xw cI cZ o W E S) lpx (by decide) rfl
  have hKc := C.2.1.sub (tys' := [(cI, .int), (cZ, .boolean)]) [0, 1] rfl
  have hFc := va_free (wc := xw cI cZ o W E S) h3 h4 C.2.2.1 lpx rfl
  refine va_calli (va_runV (As := As) (rest := rest) C.1 (hM H.size) cw ⟨gx_blind, va_recv (q0 := 0) C.2.1 h2 (ci := 0) rfl rfl, fun U hU hW => ⟨rfl, by rw [hU], by rw [hU]; exact hPc, va_K.moved hW.alike hKc, hDc.weaken (fun _ _ _ _ => trivial)⟩⟩ rfl hn h1.1 hst (lv_room hw) d hcs) h4 (fun q _ h => hFc q h) hFc (fun r u t H1 locs1 ht hvm hp hB hz hk hS => ?_)
  obtain ⟨hP1, hK1, hD1⟩ := hB
  rw [ht] at hP1
  obtain ⟨hP2, hD2⟩ := gl_back C h2 h3 hFc hk hP1 hD1
  exact kk r u hp H1 locs1 ls h1 hP2 hD2 hS
set_option maxRecDepth 20000 in
/-- a call on the reference -/
theorem gl_callMi (C : GC p s m args c cc nL own wsA (dC, dI) gx_cl (ltys cI cZ cL) A) {y : MethodName} {rm : Room} {bytes : ByteArray} {maxL n index : Nat} {ret : Option FieldType} {As rest : List Value} {post : Int32 → GS → Prop} (hM : MetI l y (Cond.code y bytes maxL ret :: wsA) rm (dC, dI) gx_cl [(cI, .int), (cZ, .boolean)] (mw cI cZ o') (.ref (o' 0) :: As) (lm S) post) (cw : CallW R s args own RM index y bytes maxL ret (Cond.code y bytes maxL ret :: wsA) rm 0 0 n) (hn : As.length = n) (hw : (rest.map fun v => v.category).sum ≤ 8) (d : decode cc pc = .ok (.invokevirtual index, 3)) {st0 : List Value} (hst : st0 = As.reverse ++ .ref (o' 0) :: rest) (hcs : nc ≤ R.cells ∧ ns ≤ R.slots) (kk : ∀ (r : Int32) (S1 : GS), post r S1 → GW nc ns p l e R s m args below meth c Q nL (dC, dI) gx_cl A (lw cI cZ cL o o' oo W E) (ljm S S1) (pc + 3) L (.int r :: rest)) : GW nc ns p l e R s m args below meth c Q nL (dC, dI) gx_cl A (lw cI cZ cL o o' oo W E) S pc L st0 := by
  intro H locs ls h1 h2 h3 h4
  have hPc := h2.sub (ws' := mw cI cZ o' (lm S)) lpm rfl
  have hDc := h3.sub (ws' := mw cI cZ o' (lm S)) lpm (by decide) rfl
  have hKc := C.2.1.sub (tys' := [(cI, .int), (cZ, .boolean)]) [0, 1] rfl
  have hFc := va_free (wc := mw cI cZ o' (lm S)) h3 h4 C.2.2.1 lpm rfl
  refine va_calli (va_runV (As := As) (rest := rest) C.1 (hM H.size) cw ⟨gx_blind, va_recv (q0 := 10) C.2.1 h2 (ci := 2) rfl rfl, fun U hU hW => ⟨rfl, by rw [hU], by rw [hU]; exact hPc, va_K.moved hW.alike hKc, hDc.weaken (fun _ _ _ _ => trivial)⟩⟩ rfl hn h1.1 hst (lv_room hw) d hcs) h4 (fun q _ h => hFc q h) hFc (fun r u t H1 locs1 ht hvm hp hB hz hk hS => ?_)
  obtain ⟨hP1, hK1, hD1⟩ := hB
  rw [ht] at hP1
  obtain ⟨hP2, hD2⟩ := gl_backM C h2 h3 hFc hk hP1 hD1
  exact kk r u hp H1 locs1 ls h1 hP2 hD2 hS
set_option maxRecDepth 20000 in
theorem gl_callMv (C : GC p s m args c cc nL own wsA (dC, dI) gx_cl (ltys cI cZ cL) A) {y : MethodName} {rm : Room} {bytes : ByteArray} {maxL n index : Nat} {ret : Option FieldType} {As rest : List Value} {post : GS → Prop} (hM : MetV l y (Cond.code y bytes maxL ret :: wsA) rm (dC, dI) gx_cl [(cI, .int), (cZ, .boolean)] (mw cI cZ o') (.ref (o' 0) :: As) (lm S) post) (cw : CallW R s args own RM index y bytes maxL ret (Cond.code y bytes maxL ret :: wsA) rm 0 0 n) (hn : As.length = n) (hw : (rest.map fun v => v.category).sum ≤ 8) (d : decode cc pc = .ok (.invokevirtual index, 3)) {st0 : List Value} (hst : st0 = As.reverse ++ .ref (o' 0) :: rest) (hcs : nc ≤ R.cells ∧ ns ≤ R.slots) (kk : ∀ (S1 : GS), post S1 → GW nc ns p l e R s m args below meth c Q nL (dC, dI) gx_cl A (lw cI cZ cL o o' oo W E) (ljm S S1) (pc + 3) L rest) : GW nc ns p l e R s m args below meth c Q nL (dC, dI) gx_cl A (lw cI cZ cL o o' oo W E) S pc L st0 := by
  intro H locs ls h1 h2 h3 h4
  have hPc := h2.sub (ws' := mw cI cZ o' (lm S)) lpm rfl
  have hDc := h3.sub (ws' := mw cI cZ o' (lm S)) lpm (by decide) rfl
  have hKc := C.2.1.sub (tys' := [(cI, .int), (cZ, .boolean)]) [0, 1] rfl
  have hFc := va_free (wc := mw cI cZ o' (lm S)) h3 h4 C.2.2.1 lpm rfl
  refine va_callv (va_runV (As := As) (rest := rest) C.1 (hM H.size) cw ⟨gx_blind, va_recv (q0 := 10) C.2.1 h2 (ci := 2) rfl rfl, fun U hU hW => ⟨rfl, by rw [hU], by rw [hU]; exact hPc, va_K.moved hW.alike hKc, hDc.weaken (fun _ _ _ _ => trivial)⟩⟩ rfl hn h1.1 hst (lv_room hw) d hcs) h4 (fun q _ h => hFc q h) hFc (fun u t H1 locs1 ht hvm hp hB hz hk hS => ?_)
  obtain ⟨hP1, hK1, hD1⟩ := hB
  rw [ht] at hP1
  obtain ⟨hP2, hD2⟩ := gl_backM C h2 h3 hFc hk hP1 hD1
  exact kk u hp H1 locs1 ls h1 hP2 hD2 hS
theorem gl_blindX {wd : GS → va_W} {D : va_G} {cl : List vw_C} {tys : List (ClassId × FieldType)} {S : GS} {av : List Value} {sz : Nat} {B : Nat → Prop} : FrameBlind (va_Pc av (fun U => GP wd D cl tys S sz U ∧ ZX B U)) := fun a U g mk q => by
  obtain ⟨q0, ⟨q1, qP, qK, qD⟩, qZ⟩ := q
  exact ⟨q0, ⟨q1, qP, va_K.moved (u := U) (U := U.calling g mk a) (Vm.Alike.refl U.vm) qK, qD⟩, qZ.calling g mk a⟩
set_option maxRecDepth 20000 in
/-- a call on the class's object that may throw -/
theorem gl_callXXi (C : GC p s m args c cc nL own wsA (dC, dI) gx_cl (ltys cI cZ cL) A) (hZ : ZX A s) {y : MethodName} {rm : Room} {bytes : ByteArray} {maxL n index : Nat} {ret : Option FieldType} {As rest : List Value} {post : Int32 → GS → Prop} {exc : String → GS → Prop} (hM : XMetI l y (Cond.code y bytes maxL ret :: wsA) rm (dC, dI) gx_cl [(cI, .int), (cZ, .boolean)] (xw cI cZ o W E) (.ref (o 0) :: As) S post exc) (cw : CallW R s args own RX index y bytes maxL ret (Cond.code y bytes maxL ret :: wsA) rm 1 6 n) (hn : As.length = n) (hw : (rest.map fun v => v.category).sum ≤ 8) (d : decode cc pc = .ok (.invokevirtual index, 3)) {st0 : List Value} (hst : st0 = As.reverse ++ .ref (o 0) :: rest) (hcs : nc + 1 ≤ R.cells ∧ ns + 6 ≤ R.slots)
    (kx : ∀ (X : String) (S1 : GS), exc X S1 → GT (nc + 1) (ns + 6) p l e R s m args below meth c Q nL (dC, dI) gx_cl A (lw cI cZ cL o o' oo W E) (ljx S S1) pc L rest X)
    (kk : ∀ (r : Int32) (S1 : GS), post r S1 → GW (nc + 1) (ns + 6) p l e R s m args below meth c Q nL (dC, dI) gx_cl A (lw cI cZ cL o o' oo W E) (ljx S S1) (pc + 3) L (.int r :: rest)) : GW nc ns p l e R s m args below meth c Q nL (dC, dI) gx_cl A (lw cI cZ cL o o' oo W E) S pc L st0 := by
  intro H locs ls h1 h2 h3 h4
  have hPc := h2.sub (ws' := xw cI cZ o W E S) lpx rfl
  have hDc := h3.sub (ws' := xw cI cZ o W E S) lpx (by decide) rfl
  have hKc := C.2.1.sub (tys' := [(cI, .int), (cZ, .boolean)]) [0, 1] rfl
  have hFc := va_free (wc := xw cI cZ o W E S) h3 h4 C.2.2.1 lpx rfl
  refine vx_calli (vx_runV (As := As) (rest := rest) C.1 (hM H.size) cw ⟨gl_blindX, va_recv (q0 := 0) C.2.1 h2 (ci := 0) rfl rfl, fun U hU hW => ⟨rfl, ⟨by rw [hU], by rw [hU]; exact hPc, va_K.moved hW.alike hKc, hDc.weaken (fun _ _ _ _ => trivial)⟩, hZ.to hW hU h4 hFc⟩⟩ rfl hn h1.1 hst (lv_room hw) d hcs) h4 (fun q _ h => hFc q h) hFc (fun q _ h => hFc q h) (fun X ce q9 u t H1 locs1 ht hvm _ hB hz hk hS hce hcv hcl => ?_) (fun r u t H1 locs1 ht hvm hp hB hz hk hS => ?_)
  · obtain ⟨he, hP1, hK1, hD1⟩ := hB
    rw [ht] at hP1
    obtain ⟨hP2, hD2⟩ := gl_back C h2 h3 hFc hk hP1 hD1
    exact kx X u he H1 locs1 ls q9 ce h1 hP2 hD2 hS hce hcv hcl
  · obtain ⟨hP1, hK1, hD1⟩ := hB
    rw [ht] at hP1
    obtain ⟨hP2, hD2⟩ := gl_back C h2 h3 hFc hk hP1 hD1
    exact kk r u hp H1 locs1 ls h1 hP2 hD2 hS
set_option maxRecDepth 20000 in
theorem gl_callXXv (C : GC p s m args c cc nL own wsA (dC, dI) gx_cl (ltys cI cZ cL) A) (hZ : ZX A s) {y : MethodName} {rm : Room} {bytes : ByteArray} {maxL n index : Nat} {ret : Option FieldType} {As rest : List Value} {post : GS → Prop} {exc : String → GS → Prop} (hM : XMetV l y (Cond.code y bytes maxL ret :: wsA) rm (dC, dI) gx_cl [(cI, .int), (cZ, .boolean)] (xw cI cZ o W E) (.ref (o 0) :: As) S post exc) (cw : CallW R s args own RX index y bytes maxL ret (Cond.code y bytes maxL ret :: wsA) rm 1 6 n) (hn : As.length = n) (hw : (rest.map fun v => v.category).sum ≤ 8) (d : decode cc pc = .ok (.invokevirtual index, 3)) {st0 : List Value} (hst : st0 = As.reverse ++ .ref (o 0) :: rest) (hcs : nc + 1 ≤ R.cells ∧ ns + 6 ≤ R.slots)
    (kx : ∀ (X : String) (S1 : GS), exc X S1 → GT (nc + 1) (ns + 6) p l e R s m args below meth c Q nL (dC, dI) gx_cl A (lw cI cZ cL o o' oo W E) (ljx S S1) pc L rest X)
    (kk : ∀ (S1 : GS), post S1 → GW (nc + 1) (ns + 6) p l e R s m args below meth c Q nL (dC, dI) gx_cl A (lw cI cZ cL o o' oo W E) (ljx S S1) (pc + 3) L rest) : GW nc ns p l e R s m args below meth c Q nL (dC, dI) gx_cl A (lw cI cZ cL o o' oo W E) S pc L st0 := by
  intro H locs ls h1 h2 h3 h4
  have hPc := h2.sub (ws' := xw cI cZ o W E S) lpx rfl
  have hDc := h3.sub (ws' := xw cI cZ o W E S) lpx (by decide) rfl
  have hKc := C.2.1.sub (tys' := [(cI, .int), (cZ, .boolean)]) [0, 1] rfl
  have hFc := va_free (wc := xw cI cZ o W E S) h3 h4 C.2.2.1 lpx rfl
  refine vx_callv (vx_runV (As := As) (rest := rest) C.1 (hM H.size) cw ⟨gl_blindX, va_recv (q0 := 0) C.2.1 h2 (ci := 0) rfl rfl, fun U hU hW => ⟨rfl, ⟨by rw [hU], by rw [hU]; exact hPc, va_K.moved hW.alike hKc, hDc.weaken (fun _ _ _ _ => trivial)⟩, hZ.to hW hU h4 hFc⟩⟩ rfl hn h1.1 hst (lv_room hw) d hcs) h4 (fun q _ h => hFc q h) hFc (fun q _ h => hFc q h) (fun X ce q9 u t H1 locs1 ht hvm _ hB hz hk hS hce hcv hcl => ?_) (fun u t H1 locs1 ht hvm hp hB hz hk hS => ?_)
  · obtain ⟨he, hP1, hK1, hD1⟩ := hB
    rw [ht] at hP1
    obtain ⟨hP2, hD2⟩ := gl_back C h2 h3 hFc hk hP1 hD1
    exact kx X u he H1 locs1 ls q9 ce h1 hP2 hD2 hS hce hcv hcl
  · obtain ⟨hP1, hK1, hD1⟩ := hB
    rw [ht] at hP1
    obtain ⟨hP2, hD2⟩ := gl_back C h2 h3 hFc hk hP1 hD1
    exact kk u hp H1 locs1 ls h1 hP2 hD2 hS
end GLB
