section GXN
variable {p : Program} {l : Launch} {e : Env} {R : Room} {s : State} {m : MethodId} {args : Array Value} {below : List Frame} {meth : Method} {c : Code} {Q : State → Prop}
variable {cc : ByteArray} {nL : Nat} {dC : Nat → ClassId} {dI : Nat → Nat → Nat} {cI cZ : ClassId} {o : Nat → Nat} {W E : Nat} {tys : List (ClassId × FieldType)} {A : Nat → Prop}
variable {nc ns : Nat} {S : GS} {pc : Nat} {L : List (Nat × Value)} {st : List Value}
/-- freeChunks.held, read in the class that holds FreeChunks -/
theorem gx_heldN (C : GC p s m args c cc nL RX wsA (dC, dI) gx_cl tys A) (hZ : ZX A s) (d : decode cc pc = .ok (.getfield 111, 3)) (kk : GW nc ns p l e R s m args below meth c Q nL (dC, dI) gx_cl A (xw cI cZ o W E) S (pc + 3) L (.int (S 100 0) :: st)) : GW nc ns p l e R s m args below meth c Q nL (dC, dI) gx_cl A (xw cI cZ o W E) S pc L (.ref (o 5) :: st) :=
  fun H locs ls h1 h2 h3 h4 => va_getN (host := RX) (C := RF) (T := TF) (N := 3) (ci := 1) C.1.1 C.1.2.1 C.1.2.2.2.2 hi_F C.1.2.2.2.1 C.2.1 h2 5 (xo_fc.1 S) rfl 2 (by decide) (va_Nw.use rfl hZ.2.2.2.2.2.1) (fun _ h9 => h9) rfl d (kk H locs ls h1 h2 h3 h4)
end GXN
/-- CountedObjects.chunks(I)I: a step from head to head -/
def sp_X_chunks (W E : Nat) (post : Int32 → GS → Prop) (exc : String → GS → Prop) (V : Nat → GS → List Int32 → Prop) (h : Nat) (S : GS) (xs : List Int32) : Prop := match h, xs with
  | 0, [v1] => ((¬ v1 = 0 → wp_F_ofSize W E [v1] S (fun r2 S1 => post r2 S1)) ∧ (v1 = 0 → post (S 100 0) S))
  | _, _ => False
def wp_X_chunks (W E : Nat) (xs : List Int32) (S : GS) (post : Int32 → GS → Prop) (exc : String → GS → Prop) : Prop := ∀ V : Nat → GS → List Int32 → Prop, (∀ h S xs, sp_X_chunks W E post exc V h S xs → V h S xs) → V 0 S xs
def vh_X_chunks (o : Nat → Nat) (G : GS → Nat → List (Nat × Value) → List Value → Prop) (h : Nat) (S : GS) (xs : List Int32) : Prop := match h, xs with
  | 0, [v1] => G S 0 [(0, .ref (o 0)), (1, .int v1)] []
  | _, _ => True
set_option maxHeartbeats 4000000 in
set_option maxRecDepth 100000 in
theorem wk_X_chunks_0 {l : Launch} {dC : Nat → ClassId} {dI : Nat → Nat → Nat} {cI cZ : ClassId} {o : Nat → Nat} {W E : Nat} {p : Program} {e : Env} {s : State} {m : MethodId} {args : Array Value} {below : List Frame} {meth : Method} {c : Code} {A : Nat → Prop} {post : Int32 → GS → Prop} {exc : String → GS → Prop} (hZ : ZX A s) (hl : l.stackTraces = false) (hout : ∀ x ∈ c.exceptionTable.toList, False) (C : GC p s m args c cX_chunks 2 RX wsA (dC, dI) gx_cl [(cI, .int), (cZ, .boolean)] A) (hr : meth.sig.returnType = (some .int)) (hlocks : meth.locks = false) (S : GS) (v1 : Int32) (hs : sp_X_chunks W E post exc (vh_X_chunks o (GV p l e ({ frames := 6, cells := 1, slots := 6, locals := 100 }) s m args below meth c (vx_MQ below (va_Qi post (GB (xw cI cZ o W E) (dC, dI) gx_cl [(cI, .int), (cZ, .boolean)] A) A) (GX (xw cI cZ o W E) (dC, dI) gx_cl [(cI, .int), (cZ, .boolean)] A exc) args s 1 6 A) 2 (dC, dI) gx_cl A (xw cI cZ o W E))) 0 S [v1]) : GV p l e ({ frames := 6, cells := 1, slots := 6, locals := 100 }) s m args below meth c (vx_MQ below (va_Qi post (GB (xw cI cZ o W E) (dC, dI) gx_cl [(cI, .int), (cZ, .boolean)] A) A) (GX (xw cI cZ o W E) (dC, dI) gx_cl [(cI, .int), (cZ, .boolean)] A exc) args s 1 6 A) 2 (dC, dI) gx_cl A (xw cI cZ o W E) S 0 [(0, .ref (o 0)), (1, .int v1)] [] := by
  refine gx_iload_n C dX_chunks_0 1 rfl rfl ?_
  obtain ⟨ht, hf⟩ := hs
  refine gx_if_ne C dX_chunks_1 14 rfl (fun hc => ?_) (fun hc => ?_)
  · have hs := ht hc
    refine gx_aload_n C dX_chunks_14 0 rfl rfl ?_
    refine gx_get C xo_this hi_X 4 (by decide) fl_X_36 rfl dX_chunks_15 ?_
    refine gx_iload_n C dX_chunks_18 1 rfl rfl ?_
    refine gx_calli (As := [.int v1]) (rest := []) C (mt_F_ofSize l dC dI cI cZ o W E _ _ _ hs) (gx_cwV C 1 ln_X_114 im_F_ofSize se_F_ofSize in_CountedObjects_FreeChunks cd_F_ofSize rfl rfl (by decide +kernel) ⟨Nat.le_of_ble_eq_true rfl, Nat.le_of_ble_eq_true rfl⟩) xo_fc rfl (Nat.le_of_ble_eq_true rfl) dX_chunks_19 (fun S1 => xw_ad _ S1) rfl (fun r2 S1 hs => ?_)
    exact gx_iretX C hr hlocks dX_chunks_22 hs
  · have hs := hf hc
    refine gx_aload_n C dX_chunks_4 0 rfl rfl ?_
    refine gx_get C xo_this hi_X 4 (by decide) fl_X_36 rfl dX_chunks_5 ?_
    refine gx_heldN C hZ dX_chunks_8 ?_
    refine gx_goto C dX_chunks_11 22 rfl ?_
    exact gx_iretX C hr hlocks dX_chunks_22 hs
set_option maxHeartbeats 4000000 in
set_option maxRecDepth 100000 in
theorem mt_X_chunks (l : Launch) (hl : l.stackTraces = false) (dC : Nat → ClassId) (dI : Nat → Nat → Nat) (cI cZ : ClassId) (o : Nat → Nat) (W E : Nat) (v1 : Int32) (S : GS) (post : Int32 → GS → Prop) (exc : String → GS → Prop) (h : wp_X_chunks W E [v1] S post exc) : XMetI l yX_chunks (Cond.code yX_chunks cX_chunks 2 (some .int) :: wsA) ({ frames := 6, cells := 1, slots := 6, locals := 100 }) (dC, dI) gx_cl [(cI, .int), (cZ, .boolean)] (xw cI cZ o W E) [.ref (o 0), .int v1] S post exc := by
  refine gx_metXI (by decide) wsA_good (Nat.le_of_ble_eq_true rfl) ?_
  intro p e s m args below meth c A C hr hlocks hZ hout
  refine h (vh_X_chunks o (GV p l e ({ frames := 6, cells := 1, slots := 6, locals := 100 }) s m args below meth c (vx_MQ below (va_Qi post (GB (xw cI cZ o W E) (dC, dI) gx_cl [(cI, .int), (cZ, .boolean)] A) A) (GX (xw cI cZ o W E) (dC, dI) gx_cl [(cI, .int), (cZ, .boolean)] A exc) args s 1 6 A) 2 (dC, dI) gx_cl A (xw cI cZ o W E))) (fun h S xs hs => ?_)
  unfold sp_X_chunks at hs
  split at hs
  · exact wk_X_chunks_0 hZ hl hout C hr hlocks _ _ hs
  · exact hs.elim
