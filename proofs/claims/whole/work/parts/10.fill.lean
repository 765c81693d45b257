/-! Arrays.fill of an int array of the world; the room of letting go. -/
def RJ : String := "java/util/Arrays"
abbrev cJ_fill : ByteArray := prog_13_method_103_code
def yJ_fill : MethodName := ⟨RJ, "fill", "([II)V"⟩
theorem dJ_fill_0 : decode cJ_fill 0 = .ok (.iconst 0, 1) := by decide +kernel
theorem dJ_fill_1 : decode cJ_fill 1 = .ok (.istore_n 2, 1) := by decide +kernel
theorem dJ_fill_2 : decode cJ_fill 2 = .ok (.aload_n 0, 1) := by decide +kernel
theorem dJ_fill_3 : decode cJ_fill 3 = .ok (.arraylength, 1) := by decide +kernel
theorem dJ_fill_4 : decode cJ_fill 4 = .ok (.istore_n 3, 1) := by decide +kernel
theorem dJ_fill_5 : decode cJ_fill 5 = .ok (.iload_n 2, 1) := by decide +kernel
theorem dJ_fill_6 : decode cJ_fill 6 = .ok (.iload_n 3, 1) := by decide +kernel
theorem dJ_fill_7 : decode cJ_fill 7 = .ok (.if_icmp .ge 13, 3) := by decide +kernel
theorem dJ_fill_10 : decode cJ_fill 10 = .ok (.aload_n 0, 1) := by decide +kernel
theorem dJ_fill_11 : decode cJ_fill 11 = .ok (.iload_n 2, 1) := by decide +kernel
theorem dJ_fill_12 : decode cJ_fill 12 = .ok (.iload_n 1, 1) := by decide +kernel
theorem dJ_fill_13 : decode cJ_fill 13 = .ok (.iastore, 1) := by decide +kernel
theorem dJ_fill_14 : decode cJ_fill 14 = .ok (.iinc 2 1, 3) := by decide +kernel
theorem dJ_fill_17 : decode cJ_fill 17 = .ok (.goto (-12), 3) := by decide +kernel
theorem dJ_fill_20 : decode cJ_fill 20 = .ok (.return_, 1) := by decide +kernel
def fl_row (k n : Nat) (v : Int32) (S : GS) : GS := gx_row k (fun j => if j < n then v else S k j) S
theorem fl_0 (k : Nat) (v : Int32) (S : GS) : fl_row k 0 v S = S := by
  funext b
  unfold fl_row gx_row
  by_cases h : b = k
  · subst h; simp
  · simp [h]
theorem fl_s (k n : Nat) (v : Int32) (S : GS) : gx_set k n v (fl_row k n v S) = fl_row k (n + 1) v S := by
  funext b
  unfold fl_row gx_set gx_row
  by_cases h : b = k
  · subst h
    simp only [if_true]
    funext j
    unfold upd
    by_cases hj : j = n
    · subst hj; simp
    · rw [if_neg hj]
      show (if j < n then v else S b j) = _
      by_cases h2 : j < n
      · rw [if_pos h2, if_pos (by omega)]
      · rw [if_neg h2, if_neg (by omega)]
  · simp [h]
theorem gx_metVF {l : Launch} {y : MethodName} {Ts : List Cond} {rm : Room} {cc : ByteArray} {maxL : Nat} {D : va_G} {cl : List vw_C} {tys : List (ClassId × FieldType)} {wd : GS → va_W} {av : List Value} {S : GS} {post : GS → Prop} {ret : Option FieldType} (hy : plainFor y = true) (hgood : ∀ w ∈ Ts, goodWord w = true) (hlen : (lg_sl av).length ≤ maxL)
    (body : ∀ (p : Program) (e : Env) (s : State) (m : MethodId) (args : Array Value) (below : List Frame) (meth : Method) (c : Code) (A : Nat → Prop), GC p s m args c cc maxL y.cls Ts D cl tys A → meth.sig.returnType = ret → meth.locks = false → GV p l e rm s m args below meth c (MQ below (va_Qv post (GB wd D cl tys A) A) args s 0 0 A) maxL D cl A wd S 0 (lv_args 0 av) []) : MetV l y (Cond.code y cc maxL ret :: Ts) rm D cl tys wd av S post := by
  intro sz
  refine va_MetF (cc := cc) (maxL := maxL) (ret := ret) hy rfl ?_
  intro p e s m args below meth c s₁ B hml hv
  obtain ⟨rfl, hsz, hP, hK, hD0⟩ := hv
  subst hsz
  rw [lg_entry_eq]
  refine body p e s m av.toArray below meth c (va_A (wd S) s.heap.size) ⟨⟨B.exec, B.bytes, hml, findClass_of_methodNamed B.named, fun w hw => atoms_spec (ws := Cond.code y cc maxL ret :: Ts) B.pre w (List.mem_cons_of_mem _ hw)⟩, hK, fun q h => Or.inr h, hgood⟩ B.returns B.notSynchronized s.heap [] _ (lv_entry av hlen) hP hD0.self va_S.rf
set_option maxHeartbeats 4000000 in
set_option maxRecDepth 100000 in
theorem mt_fill (l : Launch) {D : va_G} {cl : List vw_C} {tys : List (ClassId × FieldType)} {wd : GS → va_W} {q a k n : Nat} (hA : GA wd tys q a k n .int) (hn : n < 2 ^ 31) (v : Int32) (S : GS) (post : GS → Prop) (h : post (fl_row k n v S)) : MetV l yJ_fill (Cond.code yJ_fill cJ_fill 4 none :: wsA) ({ frames := 0, cells := 0, slots := 0, locals := 0 }) D cl tys wd [.ref a, .int v] S post := by
  refine gx_metVF (by decide) wsA_good (Nat.le_of_ble_eq_true rfl) ?_
  intro p e s m args below meth c A C hr hlocks
  have loop : ∀ (r i : Nat), i + r = n → GV p l e { frames := 0, cells := 0, slots := 0, locals := 0 } s m args below meth c (MQ below (va_Qv post (GB wd D cl tys A) A) args s 0 0 A) 4 D cl A wd (fl_row k i v S) 5 [(2, .int (nI i)), (3, .int (nI n)), (0, .ref a), (1, .int v)] [] := by
    intro r
    induction r with
    | zero =>
      intro i hi
      refine gx_iload_n C dJ_fill_5 0 rfl rfl ?_
      refine gx_iload_n C dJ_fill_6 1 rfl rfl ?_
      refine gx_icmp_ge C dJ_fill_7 20 rfl (fun _ => ?_) (fun hc => ?_)
      · refine gx_vret C hr hlocks dJ_fill_20 ?_
        have : i = n := by omega
        rw [this]
        exact h
      · exact absurd (nI_le (a := n) (b := i) (by omega) (by omega)) hc
    | succ r ih =>
      intro i hi
      refine gx_iload_n C dJ_fill_5 0 rfl rfl ?_
      refine gx_iload_n C dJ_fill_6 1 rfl rfl ?_
      refine gx_icmp_ge C dJ_fill_7 20 rfl (fun hc => ?_) (fun _ => ?_)
      · exact absurd hc (nI_ge (a := i) (b := n) (by omega) hn)
      · refine gx_aload_n C dJ_fill_10 2 rfl rfl ?_
        refine gx_iload_n C dJ_fill_11 0 rfl rfl ?_
        refine gx_iload_n C dJ_fill_12 3 rfl rfl ?_
        refine gx_iast C hA (vp_in_nI (by omega) hn) dJ_fill_13 (fun S1 e1 => ?_)
        rw [nI_clamp (by omega), fl_s] at e1
        subst e1
        refine gx_iinc (v0 := 1) (f := fun w => [(2, .int w), (3, .int (nI n)), (0, .ref a), (1, .int v)]) C dJ_fill_14 0 rfl (by decide) (by decide) (fun _ => rfl) (fun w ew => ?_)
        rw [nI_1] at ew
        subst ew
        refine gx_goto C dJ_fill_17 5 rfl ?_
        exact ih (i + 1) (by omega)
  refine gx_iconst (v := 0) C dJ_fill_0 (by decide) ?_
  refine gx_istore_n (L' := [(2, .int 0), (0, .ref a), (1, .int v)]) C dJ_fill_1 rfl (by decide) rfl ?_
  refine gx_aload_n C dJ_fill_2 1 rfl rfl ?_
  refine gx_alen C hA dJ_fill_3 ?_
  refine gx_istore_n (L' := [(3, .int (nI n)), (2, .int 0), (0, .ref a), (1, .int v)]) C dJ_fill_4 rfl (by decide) rfl ?_
  refine gx_sub [1, 0, 2, 3] rfl ?_
  have := loop n 0 (by omega)
  rw [fl_0, nI_0] at this
  exact this
theorem ln_X_51 : Cond.methodLink RX 51 yJ_fill ∈ wsA := wsA_in (i := 45) (by decide +kernel) (by decide +kernel)
theorem sm_J_fill : Cond.static yJ_fill ∈ wsA := wsA_in (i := 46) (by decide +kernel) (by decide +kernel)
theorem cd_J_fill : Cond.code yJ_fill cJ_fill 4 none ∈ wsA := wsA_in (i := 47) (by decide +kernel) (by decide +kernel)
section GXF
variable {p : Program} {l : Launch} {e : Env} {R : Room} {s : State} {m : MethodId} {args : Array Value} {below : List Frame} {meth : Method} {c : Code} {Q : State → Prop}
variable {cc : ByteArray} {nL : Nat} {D : va_G} {cl : List vw_C} {tys : List (ClassId × FieldType)} {A : Nat → Prop} {wd : GS → va_W}
variable {nc ns : Nat} {S : GS} {pc : Nat} {L : List (Nat × Value)} {st : List Value}
theorem gx_fill (C : GC p s m args c cc nL RX wsA D cl tys A) {q a k n : Nat} (hA : GA wd tys q a k n .int) (hn : n < 2 ^ 31) {v : Int32} (hfr : 1 ≤ R.frames) (hlo : 23 ≤ R.locals) (hw : (st.map fun v => v.category).sum ≤ 8) (d : decode cc pc = .ok (.invokestatic 51, 3)) (hAd : ∀ S' : GS, (wd S').map (fun q => q.1) = (wd S).map (fun q => q.1)) (kk : ∀ S1 : GS, S1 = fl_row k n v S → GW nc ns p l e R s m args below meth c Q nL D cl A wd S1 (pc + 3) L st) (hcs : nc ≤ R.cells ∧ ns ≤ R.slots := by exact ⟨Nat.zero_le _, Nat.zero_le _⟩) : GW nc ns p l e R s m args below meth c Q nL D cl A wd S pc L (.int v :: .ref a :: st) := by
  intro H locs ls h1 h2 h3 h4
  have hFc := gx_free C h3 h4
  have cw : CallB R s args RX 51 yJ_fill cJ_fill 4 none (Cond.code yJ_fill cJ_fill 4 none :: wsA) { frames := 0, cells := 0, slots := 0, locals := 0 } 0 0 2 ∧ (Cond.static yJ_fill).before args s = true := by
    refine va_cwS 2 C.1.2.2.2.2 (gx_good C.2.2.2 ?_) rfl rfl rfl (by decide +kernel) ⟨hfr, hlo⟩
    intro w hw
    unfold va_wsS at hw
    rcases List.mem_append.mp hw with hw | hw
    · rcases List.mem_cons.mp hw with rfl | hw
      · exact ln_X_51
      · rcases List.mem_cons.mp hw with rfl | hw
        · exact sm_J_fill
        · rw [List.mem_singleton.mp hw]; exact in_java_util_Arrays
    · rcases List.mem_cons.mp hw with rfl | hw
      · exact cd_J_fill
      · exact hw
  refine va_callv (va_runS (As := [.ref a, .int v]) (rest := st) C.1 (mt_fill l hA hn v S (fun S1 => S1 = fl_row k n v S) rfl H.size) cw ⟨gx_blind, fun U hU hW => ⟨rfl, by rw [hU], by rw [hU]; exact h2, va_K.moved hW.alike C.2.1, h3.weaken (fun _ _ _ _ => trivial)⟩⟩ rfl rfl h1.1 rfl (lv_room hw) d hcs) h4 (fun q _ h => hFc q h) hFc (fun u t H1 locs1 ht hvm hp hB hz hk hS => ?_)
  obtain ⟨hP1, hK1, hD1⟩ := hB
  rw [ht] at hP1
  exact kk u hp H1 locs1 ls h1 hP1 (gx_D (hAd u) h3) hS
end GXF
abbrev rmdl (d : Nat) : Room := { frames := d + 4, cells := 0, slots := 0, locals := 24 * d + 200 }
