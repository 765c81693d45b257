/-! The constructors, walked with the kit's rows. -/
theorem lo_X : Cond.methodLink RX 1 objectInit ∈ wsA := wsA_in (i := 18) (by decide +kernel) (by decide +kernel)
theorem lo_F : Cond.methodLink RF 3 objectInit ∈ wsA := wsA_in (i := 32) (by decide +kernel) (by decide +kernel)
theorem lo_M : Cond.methodLink RM 1 objectInit ∈ wsA := wsA_in (i := 386) (by decide +kernel) (by decide +kernel)
theorem im_obj : Cond.instanceMethod objectInit ∈ wsA := wsA_in (i := 19) (by decide +kernel) (by decide +kernel)
theorem cd_obj : Cond.code objectInit ⟨#[0xb1]⟩ 1 none ∈ wsA := wsA_in (i := 20) (by decide +kernel) (by decide +kernel)
theorem ln_X_9 : Cond.methodLink RX 9 Lib.Math.min.name ∈ wsA := wsA_in (i := 21) (by decide +kernel) (by decide +kernel)
theorem sm_min : Cond.static Lib.Math.min.name ∈ wsA := wsA_in (i := 22) (by decide +kernel) (by decide +kernel)
theorem cd_min : Cond.code Lib.Math.min.name Lib.Math.min.code 2 (some .int) ∈ wsA := wsA_in (i := 23) (by decide +kernel) (by decide +kernel)
theorem ln_X_15 : Cond.methodLink RX 15 Lib.Math.max.name ∈ wsA := wsA_in (i := 24) (by decide +kernel) (by decide +kernel)
theorem sm_max : Cond.static Lib.Math.max.name ∈ wsA := wsA_in (i := 25) (by decide +kernel) (by decide +kernel)
theorem cd_max : Cond.code Lib.Math.max.name Lib.Math.max.code 2 (some .int) ∈ wsA := wsA_in (i := 26) (by decide +kernel) (by decide +kernel)
theorem cl_X_31 : Cond.classLink RX 31 RF ∈ wsA := wsA_in (i := 27) (by decide +kernel) (by decide +kernel)
theorem is_F : Cond.instantiable RF 3 ∈ wsA := wsA_in (i := 28) (by decide +kernel) (by decide +kernel)
theorem cA_eq {D : va_G} {cl : List vw_C} {tys : List (ClassId × FieldType)} {s : State} {cA c0 : ClassId} {ty : FieldType} (hp : ∀ C, ty ≠ .object C) (h : va_K D cl (tys ++ [(cA, ty)]) s) {t0 : Nat} (h0 : tys[t0]? = some (c0, ty)) : cA = c0 := by
  have h1 := (h.2 tys.length (cA, ty) (by simp)).2
  have h2 := (h.2 t0 (c0, ty) (by rw [List.getElem?_append_left (List.getElem?_eq_some_iff.mp h0).1]; exact h0)).2
  cases ty with
  | object C => exact absurd rfl (hp C)
  | _ => exact Option.some.inj (h1.symm.trans h2)
set_option maxHeartbeats 4000000 in
set_option maxRecDepth 100000 in
theorem mt_F_init (l : Launch) (dC : Nat → ClassId) (dI : Nat → Nat → Nat) (cI cZ : ClassId) (h n : Nat) (h1 : 1 ≤ n) (h2 : n ≤ 400) (sz : Nat) : Met l yF_init (Cond.code yF_init cF_init 2 none :: wsA) ({ frames := 1, cells := 2, slots := 800, locals := 12 }) (va_Pc [.ref h, .int (nI n)] (fun U => U.heap.size = sz ∧ va_P (dC, dI) gx_cl [(h, .inr (1, [.null, .null, .int 0]))] U.heap ∧ va_K (dC, dI) gx_cl [(cI, .int), (cZ, .boolean)] U ∧ va_D (fun _ => True) [(h, .inr (1, [.null, .null, .int 0]))])) (va_Qv (fun _ : Nat × Nat => True) (fun u t => va_P (dC, dI) gx_cl [(h, .inr (1, [.ref u.1, .ref u.2, .int 1])), (u.1, .inl (cI, n, .inl (fun _ => 0))), (u.2, .inl (cI, n, .inl (upd (fun _ => 0) 0 (nI n))))] t.heap ∧ va_K (dC, dI) gx_cl [(cI, .int), (cZ, .boolean)] t ∧ va_D (va_A [(h, .inr (1, [.null, .null, .int 0]))] sz) [(h, .inr (1, [.ref u.1, .ref u.2, .int 1])), (u.1, .inl (cI, n, .inl (fun _ => 0))), (u.2, .inl (cI, n, .inl (upd (fun _ => 0) 0 (nI n))))]) (va_A [(h, .inr (1, [.null, .null, .int 0]))] sz)) 2 800 (va_A [(h, .inr (1, [.null, .null, .int 0]))] sz) := by
  refine Met.ofW (cc := cF_init) (maxL := 2) (ret := none) (by decide) rfl ?_
  intro p e s m args below meth c s₁ B hml hv
  obtain ⟨rfl, hsz, hP, hK, hD0⟩ := hv
  have hx := B.exec
  have hb := B.bytes
  have hr := B.returns
  have hts : ∀ w ∈ wsA, w.before _ s = true := fun w hw => atoms_spec (ws := Cond.code yF_init cF_init 2 none :: wsA) B.pre w (List.mem_cons_of_mem _ hw)
  have hown : s.vm.findClass RF = some m.cls := findClass_of_methodNamed B.named
  have hlocks := B.notSynchronized
  have hin : meth.name = "<init>" := (name_of_methodNamed B.named B.method).1
  subst hsz
  have hD := hD0.self (sz := s.heap.size)
  generalize hAe : va_A [(h, .inr (1, [.null, .null, .int 0]))] s.heap.size = A at hD ⊢
  have hA : ∀ q : Nat, s.heap.size ≤ q → A q := fun q h => by rw [← hAe]; exact Or.inr h
  have hS : va_S A s.heap s.heap [] := va_S.rf
  have hP : va_P (dC, dI) gx_cl [(h, .inr (1, [.null, .null, .int 0]))] s.heap := hP
  have hl := lv_entry ([.ref h, .int (nI n)]) (n := 2) (Nat.le_of_ble_eq_true rfl)
  rw [lg_entry_eq]
  generalize (lg_sl ([.ref h, .int (nI n)]) ++ List.replicate (2 - (lg_sl ([.ref h, .int (nI n)])).length) Slot.unset).toArray = ls at hl ⊢
  have hl : lv_has ls 2 [(0, .ref h), (1, .int (nI n))] := hl
  refine lv_aload_n hx hb dF_init_0 rfl (lv_at hl 0 rfl) ?_
  refine W.objInit hx hb hown (hts _ lo_F) (hts _ im_obj) (hts _ cd_obj) rfl (by rw [hml]; exact hl.1) rfl dF_init_1 (Nat.le_of_ble_eq_true rfl) (Nat.le_of_ble_eq_true rfl) ?_
  refine W.eq (g2 := F0 m 4 ls []) rfl ?_
  refine lv_aload_n hx hb dF_init_4 rfl (lv_at hl 0 rfl) ?_
  refine lv_iload_n hx hb dF_init_5 rfl (lv_at hl 1 rfl) ?_
  refine va_newa (atype := .int) (N' := n) (a0 := (n, .inl (fun _ => 0))) (ty := .int) (n := (nI n)) hx hb (hts _ ac_int) rfl hK hP hD hS hA (fun _ => rfl) (nI_pos (by omega)) (nI_clamp (by omega)) (by show n * 4 ≤ _; omega) (by show 0 + 1 ≤ 2; omega) (by show 0 + n ≤ 800; omega) dF_init_6 (fun q1 cA H hK1 hP hD hS => ?_)
  have ec := cA_eq (fun C h => by cases h) hK1 (t0 := 0) rfl
  rw [ec] at hP hD
  clear hK1
  have hP : va_P (dC, dI) gx_cl [(h, .inr (1, [.null, .null, .int 0])), (q1, .inl (cI, n, .inl (fun _ => 0)))] H := hP
  have hD : va_D A [(h, .inr (1, [.null, .null, .int 0])), (q1, .inl (cI, n, .inl (fun _ => 0)))] := hD
  refine va_putF (D := (dC, dI)) (ci := 1) (v := .ref q1) (ty := .array .int) (C := RF) (T := TF) (N := 3) hx hb hts hi_F tyF tyF_ok nmF hown hK hP hD hS 0 rfl rfl 0 (by decide) (hts _ fl_F_9) (fun _ h9 => h9) rfl hin rfl (by decide +kernel) rfl rfl (Nat.le_of_ble_eq_true rfl) dF_init_8 (fun H locs hP hD hS => ?_)
  have hP : va_P (dC, dI) gx_cl [(h, .inr (1, [.ref q1, .null, .int 0])), (q1, .inl (cI, n, .inl (fun _ => 0)))] H := hP
  have hD : va_D A [(h, .inr (1, [.ref q1, .null, .int 0])), (q1, .inl (cI, n, .inl (fun _ => 0)))] := hD
  refine lv_aload_n hx hb dF_init_11 rfl (lv_at hl 0 rfl) ?_
  refine lv_iload_n hx hb dF_init_12 rfl (lv_at hl 1 rfl) ?_
  refine va_newa (atype := .int) (N' := n) (a0 := (n, .inl (fun _ => 0))) (ty := .int) (n := (nI n)) hx hb (hts _ ac_int) rfl hK hP hD hS hA (fun _ => rfl) (nI_pos (by omega)) (nI_clamp (by omega)) (by show n * 4 ≤ _; omega) (by show 1 + 1 ≤ 2; omega) (by show 0 + n + n ≤ 800; omega) dF_init_13 (fun q2 cA H hK1 hP hD hS => ?_)
  have ec := cA_eq (fun C h => by cases h) hK1 (t0 := 0) rfl
  rw [ec] at hP hD
  clear hK1
  have hP : va_P (dC, dI) gx_cl [(h, .inr (1, [.ref q1, .null, .int 0])), (q1, .inl (cI, n, .inl (fun _ => 0))), (q2, .inl (cI, n, .inl (fun _ => 0)))] H := hP
  have hD : va_D A [(h, .inr (1, [.ref q1, .null, .int 0])), (q1, .inl (cI, n, .inl (fun _ => 0))), (q2, .inl (cI, n, .inl (fun _ => 0)))] := hD
  refine va_putF (D := (dC, dI)) (ci := 1) (v := .ref q2) (ty := .array .int) (C := RF) (T := TF) (N := 3) hx hb hts hi_F tyF tyF_ok nmF hown hK hP hD hS 0 rfl rfl 1 (by decide) (hts _ fl_F_15) (fun _ h9 => h9) rfl hin rfl (by decide +kernel) rfl rfl (Nat.le_of_ble_eq_true rfl) dF_init_15 (fun H locs hP hD hS => ?_)
  have hP : va_P (dC, dI) gx_cl [(h, .inr (1, [.ref q1, .ref q2, .int 0])), (q1, .inl (cI, n, .inl (fun _ => 0))), (q2, .inl (cI, n, .inl (fun _ => 0)))] H := hP
  have hD : va_D A [(h, .inr (1, [.ref q1, .ref q2, .int 0])), (q1, .inl (cI, n, .inl (fun _ => 0))), (q2, .inl (cI, n, .inl (fun _ => 0)))] := hD
  refine lv_aload_n hx hb dF_init_18 rfl (lv_at hl 0 rfl) ?_
  refine va_get (D := (dC, dI)) (ci := 1) (v := .ref q2) (C := RF) (T := TF) (N := 3) hx hb hts hi_F hown hK hP 0 rfl rfl 1 (by decide) (hts _ fl_F_15) (fun _ h9 => h9) rfl dF_init_19 ?_
  refine lv_iconst (v := 0) hx hb dF_init_22 (by decide) ?_
  refine lv_iload_n hx hb dF_init_23 rfl (lv_at hl 1 rfl) ?_
  refine va_iast hx hb hK hP hD hS 2 0 rfl rfl (vp_in_nI (n := 0) (N := n) (by omega) (by omega)) dF_init_24 (fun H locs hP hD hS => ?_)
  have hP : va_P (dC, dI) gx_cl [(h, .inr (1, [.ref q1, .ref q2, .int 0])), (q1, .inl (cI, n, .inl (fun _ => 0))), (q2, .inl (cI, n, .inl (upd (fun _ => 0) 0 (nI n))))] H := hP
  have hD : va_D A [(h, .inr (1, [.ref q1, .ref q2, .int 0])), (q1, .inl (cI, n, .inl (fun _ => 0))), (q2, .inl (cI, n, .inl (upd (fun _ => 0) 0 (nI n))))] := hD
  refine lv_aload_n hx hb dF_init_25 rfl (lv_at hl 0 rfl) ?_
  refine lv_iconst (v := 1) hx hb dF_init_26 (by decide) ?_
  refine va_put (D := (dC, dI)) (ci := 1) (v := .int 1) (ty := .int) (C := RF) (T := TF) (N := 3) hx hb hts hi_F tyF tyF_ok nmF hown hK hP hD hS 0 rfl rfl 2 (by decide) (hts _ fl_F_18) (fun _ h9 => h9) rfl (by decide +kernel) rfl rfl (Nat.le_of_ble_eq_true rfl) dF_init_27 (fun H locs hP hD hS => ?_)
  have hP : va_P (dC, dI) gx_cl [(h, .inr (1, [.ref q1, .ref q2, .int 1])), (q1, .inl (cI, n, .inl (fun _ => 0))), (q2, .inl (cI, n, .inl (upd (fun _ => 0) 0 (nI n))))] H := hP
  have hD : va_D A [(h, .inr (1, [.ref q1, .ref q2, .int 1])), (q1, .inl (cI, n, .inl (fun _ => 0))), (q2, .inl (cI, n, .inl (upd (fun _ => 0) 0 (nI n))))] := hD
  refine W.widen (k := 2) (n := 800) (by omega) (by omega) ?_
  exact W.vret hx hb hr (fun t ht hW => ⟨⟨(q1, q2), rfl, trivial, by rw [ht]; exact hP, va_K.moved hW.alike hK, hD⟩, hS.F ht⟩) hS.2.2 dF_init_30
/-- a number held between two bounds -/
def cx_clamp (lo hi : Nat) (a : Int32) : Nat := if a.toInt < lo then lo else if (hi : Int) < a.toInt then hi else a.toInt.toNat
theorem cx_in {lo hi : Nat} (h : lo ≤ hi) (a : Int32) : lo ≤ cx_clamp lo hi a ∧ cx_clamp lo hi a ≤ hi := by
  unfold cx_clamp
  split
  · exact ⟨Nat.le_refl _, h⟩
  · split
    · exact ⟨h, Nat.le_refl _⟩
    · omega
theorem cx_of {x : Int32} {n : Nat} (hn : n < 2 ^ 31) (h : x.toInt = n) : x = nI n := Int32.toInt_inj.mp (by rw [nI_toInt hn]; exact h)
theorem cx_1 {lo hi : Nat} {L a : Int32} (hl : lo < 2 ^ 31) (hL : L.toInt = lo) (h : ¬ L ≤ a) : L = nI (cx_clamp lo hi a) := by
  have h1 : a.toInt < lo := by
    have := mt Int32.le_iff_toInt_le.mpr h
    omega
  unfold cx_clamp
  rw [if_pos h1]
  exact cx_of hl hL
theorem cx_2 {lo hi : Nat} {L H a : Int32} (hh : hi < 2 ^ 31) (hL : L.toInt = lo) (hH : H.toInt = hi) (h : L ≤ a) (h2 : ¬ a ≤ H) : H = nI (cx_clamp lo hi a) := by
  have h1 := Int32.le_iff_toInt_le.mp h
  have h3 := mt Int32.le_iff_toInt_le.mpr h2
  unfold cx_clamp
  rw [if_neg (by omega), if_pos (by omega)]
  exact cx_of hh hH
theorem cx_3 {lo hi : Nat} {L H a : Int32} (hh : hi < 2 ^ 31) (hL : L.toInt = lo) (hH : H.toInt = hi) (h : L ≤ a) (h2 : a ≤ H) : a = nI (cx_clamp lo hi a) := by
  have h1 := Int32.le_iff_toInt_le.mp h
  have h3 := Int32.le_iff_toInt_le.mp h2
  unfold cx_clamp
  rw [if_neg (by omega), if_neg (by omega)]
  exact cx_of (by omega) (by omega)
theorem cx_m {lo hi : Nat} {L H a : Int32} (hlh : lo < hi) (hh : hi < 2 ^ 31) (hL : L.toInt = lo) (hH : H.toInt = hi) : (if L < (if a < H then a else H) then (if a < H then a else H) else L) = nI (cx_clamp lo hi a) := by
  by_cases h : a < H
  · rw [if_pos h]
    have h0 := Int32.lt_iff_toInt_lt.mp h
    by_cases h2 : L < a
    · rw [if_pos h2]
      have h3 := Int32.lt_iff_toInt_lt.mp h2
      exact cx_3 hh hL hH (Int32.le_iff_toInt_le.mpr (by omega)) (Int32.le_iff_toInt_le.mpr (by omega))
    · rw [if_neg h2]
      have h3 := mt Int32.lt_iff_toInt_lt.mpr h2
      by_cases h4 : L ≤ a
      · have h5 := Int32.le_iff_toInt_le.mp h4
        have : L = a := Int32.toInt_inj.mp (by omega)
        rw [this]
        exact cx_3 hh (by rw [← this]; exact hL) hH (Int32.le_refl _) (Int32.le_iff_toInt_le.mpr (by omega))
      · exact cx_1 (by omega) hL h4
  · rw [if_neg h]
    have h0 := mt Int32.lt_iff_toInt_lt.mpr h
    rw [if_pos (Int32.lt_iff_toInt_lt.mpr (by omega))]
    by_cases h4 : a ≤ H
    · have h5 := Int32.le_iff_toInt_le.mp h4
      have : a = H := Int32.toInt_inj.mp (by omega)
      subst this
      exact cx_3 hh hL hH (Int32.le_iff_toInt_le.mpr (by omega)) (Int32.le_refl _)
    · exact cx_2 hh hL hH (Int32.le_iff_toInt_le.mpr (by omega)) h4
/-- what the class's arrays and numbers hold when it is made -/
def x0 (W : Nat) : GS := fun k => if k = 7 then upd (fun _ => 0) 0 (nI W) else if k = 100 then (fun j => if j = 0 then 1 else 0) else fun _ => 0
set_option maxHeartbeats 4000000 in
set_option maxRecDepth 100000 in
theorem mt_X_init (l : Launch) (dC : Nat → ClassId) (dI : Nat → Nat → Nat) (cI cZ : ClassId) (h : Nat) (a b : Int32) (Wn En : Nat) (hW : Wn = cx_clamp 16 400 a) (hE : En = cx_clamp 2 40 b) (sz : Nat) : Met l yX_init (Cond.code yX_init cX_init 5 none :: wsA) ({ frames := 2, cells := 9, slots := 2000, locals := 100 }) (va_Pc [.ref h, .int a, .int b] (fun U => U.heap.size = sz ∧ va_P (dC, dI) gx_cl [(h, .inr (0, [.null, .null, .null, .null, .null, .null, .null, .int 0]))] U.heap ∧ va_K (dC, dI) gx_cl [(cI, .int), (cZ, .boolean)] U ∧ va_D (fun _ => True) [(h, .inr (0, [.null, .null, .null, .null, .null, .null, .null, .int 0]))])) (va_Qv (fun o : Nat → Nat => o 0 = h) (fun o t => va_P (dC, dI) gx_cl (xw cI cZ o Wn En (fl_row 1 (En + 1) (-1) (x0 Wn))) t.heap ∧ va_K (dC, dI) gx_cl [(cI, .int), (cZ, .boolean)] t ∧ va_D (va_A [(h, .inr (0, [.null, .null, .null, .null, .null, .null, .null, .int 0]))] sz) (xw cI cZ o Wn En (fl_row 1 (En + 1) (-1) (x0 Wn)))) (va_A [(h, .inr (0, [.null, .null, .null, .null, .null, .null, .null, .int 0]))] sz)) 9 2000 (va_A [(h, .inr (0, [.null, .null, .null, .null, .null, .null, .null, .int 0]))] sz) := by
  have hWb := cx_in (lo := 16) (hi := 400) (by decide) a
  have hEb := cx_in (lo := 2) (hi := 40) (by decide) b
  rw [← hW] at hWb
  rw [← hE] at hEb
  refine Met.ofW (cc := cX_init) (maxL := 5) (ret := none) (by decide) rfl ?_
  intro p e s m args below meth c s₁ B hml hv
  obtain ⟨rfl, hsz, hP, hK, hD0⟩ := hv
  have hx := B.exec
  have hb := B.bytes
  have hr := B.returns
  have hts : ∀ w ∈ wsA, w.before _ s = true := fun w hw => atoms_spec (ws := Cond.code yX_init cX_init 5 none :: wsA) B.pre w (List.mem_cons_of_mem _ hw)
  have hown : s.vm.findClass RX = some m.cls := findClass_of_methodNamed B.named
  have hlocks := B.notSynchronized
  have hin : meth.name = "<init>" := (name_of_methodNamed B.named B.method).1
  subst hsz
  have hD := hD0.self (sz := s.heap.size)
  generalize hAe : va_A [(h, .inr (0, [.null, .null, .null, .null, .null, .null, .null, .int 0]))] s.heap.size = A at hD ⊢
  have hA : ∀ q : Nat, s.heap.size ≤ q → A q := fun q h => by rw [← hAe]; exact Or.inr h
  have hS : va_S A s.heap s.heap [] := va_S.rf
  have hP : va_P (dC, dI) gx_cl [(h, .inr (0, [.null, .null, .null, .null, .null, .null, .null, .int 0]))] s.heap := hP
  have hl := lv_entry ([.ref h, .int a, .int b]) (n := 5) (Nat.le_of_ble_eq_true rfl)
  rw [lg_entry_eq]
  generalize (lg_sl ([.ref h, .int a, .int b]) ++ List.replicate (5 - (lg_sl ([.ref h, .int a, .int b])).length) Slot.unset).toArray = ls at hl ⊢
  have hl : lv_has ls 5 [(0, .ref h), (1, .int a), (2, .int b)] := hl
  refine lv_aload_n hx hb dX_init_0 rfl (lv_at hl 0 rfl) ?_
  refine W.objInit hx hb hown (hts _ lo_X) (hts _ im_obj) (hts _ cd_obj) rfl (by rw [hml]; exact hl.1) rfl dX_init_1 (Nat.le_of_ble_eq_true rfl) (Nat.le_of_ble_eq_true rfl) ?_
  refine W.eq (g2 := F0 m 4 ls []) rfl ?_
  refine lv_bipush (v := 16) hx hb dX_init_4 (by decide) ?_
  refine lv_sipush (v := 400) hx hb dX_init_6 (by decide) ?_
  refine lv_iload_n hx hb dX_init_9 rfl (lv_at hl 1 rfl) ?_
  refine va_mmin hx hb (hml.trans hl.1.symm) hown (hts _ ln_X_9) (hts _ sm_min) (hts _ in_java_lang_Math) (hts _ cd_min) (Nat.le_of_ble_eq_true rfl) (Nat.le_of_ble_eq_true rfl) (Nat.zero_le _) (Nat.zero_le _) dX_init_10 ?_
  refine va_mmax hx hb (hml.trans hl.1.symm) hown (hts _ ln_X_15) (hts _ sm_max) (hts _ in_java_lang_Math) (hts _ cd_max) (Nat.le_of_ble_eq_true rfl) (Nat.le_of_ble_eq_true rfl) (Nat.zero_le _) (Nat.zero_le _) dX_init_13 ?_
  refine lv_topi (fun w ew => ?_)
  rw [cx_m (lo := 16) (hi := 400) (by decide) (by decide) (by decide) (by decide), ← hW] at ew
  subst ew
  refine lv_istore_n (lv' := [(3, .int (nI Wn)), (0, .ref h), (1, .int a), (2, .int b)]) hx hb dX_init_16 rfl hl (by decide) rfl (fun ls hl => ?_)
  refine lv_iconst (v := 2) hx hb dX_init_17 (by decide) ?_
  refine lv_bipush (v := 40) hx hb dX_init_18 (by decide) ?_
  refine lv_iload_n hx hb dX_init_20 rfl (lv_at hl 3 rfl) ?_
  refine va_mmin hx hb (hml.trans hl.1.symm) hown (hts _ ln_X_9) (hts _ sm_min) (hts _ in_java_lang_Math) (hts _ cd_min) (Nat.le_of_ble_eq_true rfl) (Nat.le_of_ble_eq_true rfl) (Nat.zero_le _) (Nat.zero_le _) dX_init_21 ?_
  refine va_mmax hx hb (hml.trans hl.1.symm) hown (hts _ ln_X_15) (hts _ sm_max) (hts _ in_java_lang_Math) (hts _ cd_max) (Nat.le_of_ble_eq_true rfl) (Nat.le_of_ble_eq_true rfl) (Nat.zero_le _) (Nat.zero_le _) dX_init_24 ?_
  refine lv_topi (fun w ew => ?_)
  rw [cx_m (lo := 2) (hi := 40) (by decide) (by decide) (by decide) (by decide), ← hE] at ew
  subst ew
  refine lv_istore (lv' := [(4, .int (nI En)), (3, .int (nI Wn)), (0, .ref h), (1, .int a), (2, .int b)]) hx hb dX_init_27 hl (by decide) rfl (fun ls hl => ?_)
  refine lv_aload_n hx hb dX_init_29 rfl (lv_at hl 2 rfl) ?_
  refine lv_iload_n hx hb dX_init_30 rfl (lv_at hl 1 rfl) ?_
  refine va_newa (atype := .int) (N' := Wn) (a0 := (Wn, .inl (fun _ => 0))) (ty := .int) (n := (nI Wn)) hx hb (hts _ ac_int) rfl hK hP hD hS hA (fun _ => rfl) (nI_pos (by omega)) (nI_clamp (by omega)) (by show Wn * 4 ≤ _; omega) (by show 0 + 1 ≤ 9; omega) (by show 0 + Wn ≤ 2000; omega) dX_init_31 (fun q1 cA H hK1 hP hD hS => ?_)
  have ec := cA_eq (fun C h => by cases h) hK1 (t0 := 0) rfl
  rw [ec] at hP hD
  clear hK1
  have hP : va_P (dC, dI) gx_cl [(h, .inr (0, [.null, .null, .null, .null, .null, .null, .null, .int 0])), (q1, .inl (cI, Wn, .inl (fun _ => 0)))] H := hP
  have hD : va_D A [(h, .inr (0, [.null, .null, .null, .null, .null, .null, .null, .int 0])), (q1, .inl (cI, Wn, .inl (fun _ => 0)))] := hD
  refine va_putF (D := (dC, dI)) (ci := 0) (v := .ref q1) (ty := .array .int) (C := RX) (T := TX) (N := 8) hx hb hts hi_X tyX tyX_ok nmX hown hK hP hD hS 0 rfl rfl 0 (by decide) (hts _ fl_X_18) (fun _ h9 => h9) rfl hin rfl (by decide +kernel) rfl rfl (Nat.le_of_ble_eq_true rfl) dX_init_33 (fun H locs hP hD hS => ?_)
  have hP : va_P (dC, dI) gx_cl [(h, .inr (0, [.ref q1, .null, .null, .null, .null, .null, .null, .int 0])), (q1, .inl (cI, Wn, .inl (fun _ => 0)))] H := hP
  have hD : va_D A [(h, .inr (0, [.ref q1, .null, .null, .null, .null, .null, .null, .int 0])), (q1, .inl (cI, Wn, .inl (fun _ => 0)))] := hD
  refine lv_aload_n hx hb dX_init_36 rfl (lv_at hl 2 rfl) ?_
  refine lv_iload hx hb dX_init_37 (lv_at hl 0 rfl) ?_
  refine lv_iconst (v := 1) hx hb dX_init_39 (by decide) ?_
  refine lv_iadd hx hb dX_init_40 ?_
  refine va_newa (atype := .int) (N' := (En + 1)) (a0 := ((En + 1), .inl (fun _ => 0))) (ty := .int) (n := ((nI En) + 1)) hx hb (hts _ ac_int) rfl hK hP hD hS hA (fun _ => rfl) (by rw [nI_1]; exact nI_pos (by omega)) (by rw [nI_1]; exact nI_clamp (by omega)) (by show (En + 1) * 4 ≤ _; omega) (by show 1 + 1 ≤ 9; omega) (by show 0 + Wn + (En + 1) ≤ 2000; omega) dX_init_41 (fun q2 cA H hK1 hP hD hS => ?_)
  have ec := cA_eq (fun C h => by cases h) hK1 (t0 := 0) rfl
  rw [ec] at hP hD
  clear hK1
  have hP : va_P (dC, dI) gx_cl [(h, .inr (0, [.ref q1, .null, .null, .null, .null, .null, .null, .int 0])), (q1, .inl (cI, Wn, .inl (fun _ => 0))), (q2, .inl (cI, (En + 1), .inl (fun _ => 0)))] H := hP
  have hD : va_D A [(h, .inr (0, [.ref q1, .null, .null, .null, .null, .null, .null, .int 0])), (q1, .inl (cI, Wn, .inl (fun _ => 0))), (q2, .inl (cI, (En + 1), .inl (fun _ => 0)))] := hD
  refine va_putF (D := (dC, dI)) (ci := 0) (v := .ref q2) (ty := .array .int) (C := RX) (T := TX) (N := 8) hx hb hts hi_X tyX tyX_ok nmX hown hK hP hD hS 0 rfl rfl 1 (by decide) (hts _ fl_X_22) (fun _ h9 => h9) rfl hin rfl (by decide +kernel) rfl rfl (Nat.le_of_ble_eq_true rfl) dX_init_43 (fun H locs hP hD hS => ?_)
  have hP : va_P (dC, dI) gx_cl [(h, .inr (0, [.ref q1, .ref q2, .null, .null, .null, .null, .null, .int 0])), (q1, .inl (cI, Wn, .inl (fun _ => 0))), (q2, .inl (cI, (En + 1), .inl (fun _ => 0)))] H := hP
  have hD : va_D A [(h, .inr (0, [.ref q1, .ref q2, .null, .null, .null, .null, .null, .int 0])), (q1, .inl (cI, Wn, .inl (fun _ => 0))), (q2, .inl (cI, (En + 1), .inl (fun _ => 0)))] := hD
  refine lv_aload_n hx hb dX_init_46 rfl (lv_at hl 2 rfl) ?_
  refine lv_iload hx hb dX_init_47 (lv_at hl 0 rfl) ?_
  refine lv_iconst (v := 1) hx hb dX_init_49 (by decide) ?_
  refine lv_iadd hx hb dX_init_50 ?_
  refine va_newa (atype := .int) (N' := (En + 1)) (a0 := ((En + 1), .inl (fun _ => 0))) (ty := .int) (n := ((nI En) + 1)) hx hb (hts _ ac_int) rfl hK hP hD hS hA (fun _ => rfl) (by rw [nI_1]; exact nI_pos (by omega)) (by rw [nI_1]; exact nI_clamp (by omega)) (by show (En + 1) * 4 ≤ _; omega) (by show 2 + 1 ≤ 9; omega) (by show 0 + Wn + (En + 1) + (En + 1) ≤ 2000; omega) dX_init_51 (fun q3 cA H hK1 hP hD hS => ?_)
  have ec := cA_eq (fun C h => by cases h) hK1 (t0 := 0) rfl
  rw [ec] at hP hD
  clear hK1
  have hP : va_P (dC, dI) gx_cl [(h, .inr (0, [.ref q1, .ref q2, .null, .null, .null, .null, .null, .int 0])), (q1, .inl (cI, Wn, .inl (fun _ => 0))), (q2, .inl (cI, (En + 1), .inl (fun _ => 0))), (q3, .inl (cI, (En + 1), .inl (fun _ => 0)))] H := hP
  have hD : va_D A [(h, .inr (0, [.ref q1, .ref q2, .null, .null, .null, .null, .null, .int 0])), (q1, .inl (cI, Wn, .inl (fun _ => 0))), (q2, .inl (cI, (En + 1), .inl (fun _ => 0))), (q3, .inl (cI, (En + 1), .inl (fun _ => 0)))] := hD
  refine va_putF (D := (dC, dI)) (ci := 0) (v := .ref q3) (ty := .array .int) (C := RX) (T := TX) (N := 8) hx hb hts hi_X tyX tyX_ok nmX hown hK hP hD hS 0 rfl rfl 2 (by decide) (hts _ fl_X_25) (fun _ h9 => h9) rfl hin rfl (by decide +kernel) rfl rfl (Nat.le_of_ble_eq_true rfl) dX_init_53 (fun H locs hP hD hS => ?_)
  have hP : va_P (dC, dI) gx_cl [(h, .inr (0, [.ref q1, .ref q2, .ref q3, .null, .null, .null, .null, .int 0])), (q1, .inl (cI, Wn, .inl (fun _ => 0))), (q2, .inl (cI, (En + 1), .inl (fun _ => 0))), (q3, .inl (cI, (En + 1), .inl (fun _ => 0)))] H := hP
  have hD : va_D A [(h, .inr (0, [.ref q1, .ref q2, .ref q3, .null, .null, .null, .null, .int 0])), (q1, .inl (cI, Wn, .inl (fun _ => 0))), (q2, .inl (cI, (En + 1), .inl (fun _ => 0))), (q3, .inl (cI, (En + 1), .inl (fun _ => 0)))] := hD
  refine lv_aload_n hx hb dX_init_56 rfl (lv_at hl 2 rfl) ?_
  refine lv_bipush (v := 8) hx hb dX_init_57 (by decide) ?_
  refine va_newa (atype := .int) (N' := 8) (a0 := (8, .inl (fun _ => 0))) (ty := .int) (n := 8) hx hb (hts _ ac_int) rfl hK hP hD hS hA (fun _ => rfl) (by decide) (by decide) (by decide) (by show 3 + 1 ≤ 9; omega) (by show 0 + Wn + (En + 1) + (En + 1) + 8 ≤ 2000; omega) dX_init_59 (fun q4 cA H hK1 hP hD hS => ?_)
  have ec := cA_eq (fun C h => by cases h) hK1 (t0 := 0) rfl
  rw [ec] at hP hD
  clear hK1
  have hP : va_P (dC, dI) gx_cl [(h, .inr (0, [.ref q1, .ref q2, .ref q3, .null, .null, .null, .null, .int 0])), (q1, .inl (cI, Wn, .inl (fun _ => 0))), (q2, .inl (cI, (En + 1), .inl (fun _ => 0))), (q3, .inl (cI, (En + 1), .inl (fun _ => 0))), (q4, .inl (cI, 8, .inl (fun _ => 0)))] H := hP
  have hD : va_D A [(h, .inr (0, [.ref q1, .ref q2, .ref q3, .null, .null, .null, .null, .int 0])), (q1, .inl (cI, Wn, .inl (fun _ => 0))), (q2, .inl (cI, (En + 1), .inl (fun _ => 0))), (q3, .inl (cI, (En + 1), .inl (fun _ => 0))), (q4, .inl (cI, 8, .inl (fun _ => 0)))] := hD
  refine va_putF (D := (dC, dI)) (ci := 0) (v := .ref q4) (ty := .array .int) (C := RX) (T := TX) (N := 8) hx hb hts hi_X tyX tyX_ok nmX hown hK hP hD hS 0 rfl rfl 3 (by decide) (hts _ fl_X_28) (fun _ h9 => h9) rfl hin rfl (by decide +kernel) rfl rfl (Nat.le_of_ble_eq_true rfl) dX_init_61 (fun H locs hP hD hS => ?_)
  have hP : va_P (dC, dI) gx_cl [(h, .inr (0, [.ref q1, .ref q2, .ref q3, .ref q4, .null, .null, .null, .int 0])), (q1, .inl (cI, Wn, .inl (fun _ => 0))), (q2, .inl (cI, (En + 1), .inl (fun _ => 0))), (q3, .inl (cI, (En + 1), .inl (fun _ => 0))), (q4, .inl (cI, 8, .inl (fun _ => 0)))] H := hP
  have hD : va_D A [(h, .inr (0, [.ref q1, .ref q2, .ref q3, .ref q4, .null, .null, .null, .int 0])), (q1, .inl (cI, Wn, .inl (fun _ => 0))), (q2, .inl (cI, (En + 1), .inl (fun _ => 0))), (q3, .inl (cI, (En + 1), .inl (fun _ => 0))), (q4, .inl (cI, 8, .inl (fun _ => 0)))] := hD
  refine lv_aload_n hx hb dX_init_64 rfl (lv_at hl 2 rfl) ?_
  refine va_new (ci := 1) (fs := [.null, .null, .int 0]) (C := RF) (T := TF) (N := 3) hx hb hts hi_F tyF tyF_ok hown (hts _ cl_X_31) (hts _ is_F) (hts _ in_CountedObjects_FreeChunks) hK hP hD hS hA rfl (fun j hj => by rcases (show j = 0 ∨ j = 1 ∨ j = 2 by omega) with rfl | rfl | rfl <;> rfl) (by show 4 + 1 ≤ 9; omega) (by show 0 + Wn + (En + 1) + (En + 1) + 8 + 3 ≤ 2000; omega) dX_init_65 (fun q9 H hP hD hS => ?_)
  have hP : va_P (dC, dI) gx_cl [(h, .inr (0, [.ref q1, .ref q2, .ref q3, .ref q4, .null, .null, .null, .int 0])), (q1, .inl (cI, Wn, .inl (fun _ => 0))), (q2, .inl (cI, (En + 1), .inl (fun _ => 0))), (q3, .inl (cI, (En + 1), .inl (fun _ => 0))), (q4, .inl (cI, 8, .inl (fun _ => 0))), (q9, .inr (1, [.null, .null, .int 0]))] H := hP
  have hD : va_D A [(h, .inr (0, [.ref q1, .ref q2, .ref q3, .ref q4, .null, .null, .null, .int 0])), (q1, .inl (cI, Wn, .inl (fun _ => 0))), (q2, .inl (cI, (En + 1), .inl (fun _ => 0))), (q3, .inl (cI, (En + 1), .inl (fun _ => 0))), (q4, .inl (cI, 8, .inl (fun _ => 0))), (q9, .inr (1, [.null, .null, .int 0]))] := hD
  refine lv_dup hx hb dX_init_68 rfl ?_
  refine lv_iload_n hx hb dX_init_69 rfl (lv_at hl 1 rfl) ?_
  have hPc := hP.sub (ws' := [(q9, .inr (1, [.null, .null, .int 0]))]) [5] rfl
  have hDc := hD.sub (ws' := [(q9, .inr (1, [.null, .null, .int 0]))]) [5] (by decide) rfl
  have hFc := va_free (wc := [(q9, .inr (1, [.null, .null, .int 0]))]) hD hS hA [5] rfl
  refine va_callv (va_runI (As := [.int (nI Wn)]) (rest := [.ref q9, .ref h]) ⟨hx, hb, hml, hown, hts⟩ (mt_F_init l dC dI cI cZ q9 Wn (by omega) (by omega) H.size) (cwI 1 hts (gx_good wsA_good (fun w hw => (List.mem_cons.mp hw).elim (fun e => e ▸ cd_F_init) id)) rfl rfl rfl (hts _ in_CountedObjects_FreeChunks) (hts _ ln_X_33) (hts _ im_F_init) rfl (by decide +kernel) ⟨Nat.le_of_ble_eq_true rfl, Nat.le_of_ble_eq_true rfl⟩) ⟨fun a U g mk q => by obtain ⟨q0, q1, qP, qK, qD⟩ := q; exact ⟨q0, q1, qP, va_K.moved (u := U) (U := U.calling g mk a) (Vm.Alike.refl U.vm) qK, qD⟩, fun U hU hW => ⟨rfl, by rw [hU], by rw [hU]; exact hPc, va_K.moved hW.alike hK, hDc.weaken (fun _ _ _ _ => trivial)⟩⟩ rfl rfl hl.1 rfl (lv_room (Nat.le_of_ble_eq_true rfl)) dX_init_70 ⟨by show 5 + 2 ≤ 9; omega, by show 0 + Wn + (En + 1) + (En + 1) + 8 + 3 + 800 ≤ 2000; omega⟩) hS (fun q _ h => hFc q h) hFc (fun u t H1 locs ht hvm h5 hB hz1 hk1 hS => ?_)
  obtain ⟨f1, f2⟩ := u
  obtain ⟨hP1, hK1, hD1⟩ := hB
  rw [ht] at hP1
  obtain ⟨hP, hD⟩ := va_join (wr := [(h, .inr (0, [.ref q1, .ref q2, .ref q3, .ref q4, .null, .null, .null, .int 0])), (q1, .inl (cI, Wn, .inl (fun _ => 0))), (q2, .inl (cI, (En + 1), .inl (fun _ => 0))), (q3, .inl (cI, (En + 1), .inl (fun _ => 0))), (q4, .inl (cI, 8, .inl (fun _ => 0)))]) (w1 := [(q9, .inr (1, [.ref f1, .ref f2, .int 1])), (f1, .inl (cI, Wn, .inl (fun _ => 0))), (f2, .inl (cI, Wn, .inl (upd (fun _ => 0) 0 (nI Wn))))]) hP hD [5] [0, 1, 2, 3, 4] rfl rfl (by decide) (by decide) hk1 hFc hP1 hD1
  generalize H1 = H at hP hS ⊢
  have hP : va_P (dC, dI) gx_cl [(h, .inr (0, [.ref q1, .ref q2, .ref q3, .ref q4, .null, .null, .null, .int 0])), (q1, .inl (cI, Wn, .inl (fun _ => 0))), (q2, .inl (cI, (En + 1), .inl (fun _ => 0))), (q3, .inl (cI, (En + 1), .inl (fun _ => 0))), (q4, .inl (cI, 8, .inl (fun _ => 0))), (q9, .inr (1, [.ref f1, .ref f2, .int 1])), (f1, .inl (cI, Wn, .inl (fun _ => 0))), (f2, .inl (cI, Wn, .inl (upd (fun _ => 0) 0 (nI Wn))))] H := hP
  have hD : va_D A [(h, .inr (0, [.ref q1, .ref q2, .ref q3, .ref q4, .null, .null, .null, .int 0])), (q1, .inl (cI, Wn, .inl (fun _ => 0))), (q2, .inl (cI, (En + 1), .inl (fun _ => 0))), (q3, .inl (cI, (En + 1), .inl (fun _ => 0))), (q4, .inl (cI, 8, .inl (fun _ => 0))), (q9, .inr (1, [.ref f1, .ref f2, .int 1])), (f1, .inl (cI, Wn, .inl (fun _ => 0))), (f2, .inl (cI, Wn, .inl (upd (fun _ => 0) 0 (nI Wn))))] := hD
  refine va_putF (D := (dC, dI)) (ci := 0) (v := .ref q9) (ty := .object "CountedObjects$FreeChunks") (C := RX) (T := TX) (N := 8) hx hb hts hi_X tyX tyX_ok nmX hown hK hP hD hS 0 rfl rfl 4 (by decide) (hts _ fl_X_36) (fun _ h9 => h9) rfl hin rfl (by decide +kernel) rfl rfl (Nat.le_of_ble_eq_true rfl) dX_init_73 (fun H locs hP hD hS => ?_)
  have hP : va_P (dC, dI) gx_cl [(h, .inr (0, [.ref q1, .ref q2, .ref q3, .ref q4, .ref q9, .null, .null, .int 0])), (q1, .inl (cI, Wn, .inl (fun _ => 0))), (q2, .inl (cI, (En + 1), .inl (fun _ => 0))), (q3, .inl (cI, (En + 1), .inl (fun _ => 0))), (q4, .inl (cI, 8, .inl (fun _ => 0))), (q9, .inr (1, [.ref f1, .ref f2, .int 1])), (f1, .inl (cI, Wn, .inl (fun _ => 0))), (f2, .inl (cI, Wn, .inl (upd (fun _ => 0) 0 (nI Wn))))] H := hP
  have hD : va_D A [(h, .inr (0, [.ref q1, .ref q2, .ref q3, .ref q4, .ref q9, .null, .null, .int 0])), (q1, .inl (cI, Wn, .inl (fun _ => 0))), (q2, .inl (cI, (En + 1), .inl (fun _ => 0))), (q3, .inl (cI, (En + 1), .inl (fun _ => 0))), (q4, .inl (cI, 8, .inl (fun _ => 0))), (q9, .inr (1, [.ref f1, .ref f2, .int 1])), (f1, .inl (cI, Wn, .inl (fun _ => 0))), (f2, .inl (cI, Wn, .inl (upd (fun _ => 0) 0 (nI Wn))))] := hD
  refine lv_aload_n hx hb dX_init_76 rfl (lv_at hl 2 rfl) ?_
  refine lv_iload hx hb dX_init_77 (lv_at hl 0 rfl) ?_
  refine lv_iconst (v := 1) hx hb dX_init_79 (by decide) ?_
  refine lv_iadd hx hb dX_init_80 ?_
  refine va_newa (atype := .boolean) (N' := (En + 1)) (a0 := ((En + 1), .inl (fun _ => 0))) (ty := .boolean) (n := ((nI En) + 1)) hx hb (hts _ ac_boolean) rfl hK hP hD hS hA (fun _ => rfl) (by rw [nI_1]; exact nI_pos (by omega)) (by rw [nI_1]; exact nI_clamp (by omega)) (by show (En + 1) * 1 ≤ _; omega) (by show 7 + 1 ≤ 9; omega) (by show 0 + Wn + (En + 1) + (En + 1) + 8 + 3 + 800 + (En + 1) ≤ 2000; omega) dX_init_81 (fun q5 cA H hK1 hP hD hS => ?_)
  have ec := cA_eq (fun C h => by cases h) hK1 (t0 := 1) rfl
  rw [ec] at hP hD
  clear hK1
  have hP : va_P (dC, dI) gx_cl [(h, .inr (0, [.ref q1, .ref q2, .ref q3, .ref q4, .ref q9, .null, .null, .int 0])), (q1, .inl (cI, Wn, .inl (fun _ => 0))), (q2, .inl (cI, (En + 1), .inl (fun _ => 0))), (q3, .inl (cI, (En + 1), .inl (fun _ => 0))), (q4, .inl (cI, 8, .inl (fun _ => 0))), (q9, .inr (1, [.ref f1, .ref f2, .int 1])), (f1, .inl (cI, Wn, .inl (fun _ => 0))), (f2, .inl (cI, Wn, .inl (upd (fun _ => 0) 0 (nI Wn)))), (q5, .inl (cZ, (En + 1), .inl (fun _ => 0)))] H := hP
  have hD : va_D A [(h, .inr (0, [.ref q1, .ref q2, .ref q3, .ref q4, .ref q9, .null, .null, .int 0])), (q1, .inl (cI, Wn, .inl (fun _ => 0))), (q2, .inl (cI, (En + 1), .inl (fun _ => 0))), (q3, .inl (cI, (En + 1), .inl (fun _ => 0))), (q4, .inl (cI, 8, .inl (fun _ => 0))), (q9, .inr (1, [.ref f1, .ref f2, .int 1])), (f1, .inl (cI, Wn, .inl (fun _ => 0))), (f2, .inl (cI, Wn, .inl (upd (fun _ => 0) 0 (nI Wn)))), (q5, .inl (cZ, (En + 1), .inl (fun _ => 0)))] := hD
  refine va_putF (D := (dC, dI)) (ci := 0) (v := .ref q5) (ty := .array .boolean) (C := RX) (T := TX) (N := 8) hx hb hts hi_X tyX tyX_ok nmX hown hK hP hD hS 0 rfl rfl 5 (by decide) (hts _ fl_X_40) (fun _ h9 => h9) rfl hin rfl (by decide +kernel) rfl rfl (Nat.le_of_ble_eq_true rfl) dX_init_83 (fun H locs hP hD hS => ?_)
  have hP : va_P (dC, dI) gx_cl [(h, .inr (0, [.ref q1, .ref q2, .ref q3, .ref q4, .ref q9, .ref q5, .null, .int 0])), (q1, .inl (cI, Wn, .inl (fun _ => 0))), (q2, .inl (cI, (En + 1), .inl (fun _ => 0))), (q3, .inl (cI, (En + 1), .inl (fun _ => 0))), (q4, .inl (cI, 8, .inl (fun _ => 0))), (q9, .inr (1, [.ref f1, .ref f2, .int 1])), (f1, .inl (cI, Wn, .inl (fun _ => 0))), (f2, .inl (cI, Wn, .inl (upd (fun _ => 0) 0 (nI Wn)))), (q5, .inl (cZ, (En + 1), .inl (fun _ => 0)))] H := hP
  have hD : va_D A [(h, .inr (0, [.ref q1, .ref q2, .ref q3, .ref q4, .ref q9, .ref q5, .null, .int 0])), (q1, .inl (cI, Wn, .inl (fun _ => 0))), (q2, .inl (cI, (En + 1), .inl (fun _ => 0))), (q3, .inl (cI, (En + 1), .inl (fun _ => 0))), (q4, .inl (cI, 8, .inl (fun _ => 0))), (q9, .inr (1, [.ref f1, .ref f2, .int 1])), (f1, .inl (cI, Wn, .inl (fun _ => 0))), (f2, .inl (cI, Wn, .inl (upd (fun _ => 0) 0 (nI Wn)))), (q5, .inl (cZ, (En + 1), .inl (fun _ => 0)))] := hD
  refine lv_aload_n hx hb dX_init_86 rfl (lv_at hl 2 rfl) ?_
  refine lv_iload hx hb dX_init_87 (lv_at hl 0 rfl) ?_
  refine va_newa (atype := .int) (N' := En) (a0 := (En, .inl (fun _ => 0))) (ty := .int) (n := (nI En)) hx hb (hts _ ac_int) rfl hK hP hD hS hA (fun _ => rfl) (nI_pos (by omega)) (nI_clamp (by omega)) (by show En * 4 ≤ _; omega) (by show 8 + 1 ≤ 9; omega) (by show 0 + Wn + (En + 1) + (En + 1) + 8 + 3 + 800 + (En + 1) + En ≤ 2000; omega) dX_init_89 (fun q6 cA H hK1 hP hD hS => ?_)
  have ec := cA_eq (fun C h => by cases h) hK1 (t0 := 0) rfl
  rw [ec] at hP hD
  clear hK1
  have hP : va_P (dC, dI) gx_cl [(h, .inr (0, [.ref q1, .ref q2, .ref q3, .ref q4, .ref q9, .ref q5, .null, .int 0])), (q1, .inl (cI, Wn, .inl (fun _ => 0))), (q2, .inl (cI, (En + 1), .inl (fun _ => 0))), (q3, .inl (cI, (En + 1), .inl (fun _ => 0))), (q4, .inl (cI, 8, .inl (fun _ => 0))), (q9, .inr (1, [.ref f1, .ref f2, .int 1])), (f1, .inl (cI, Wn, .inl (fun _ => 0))), (f2, .inl (cI, Wn, .inl (upd (fun _ => 0) 0 (nI Wn)))), (q5, .inl (cZ, (En + 1), .inl (fun _ => 0))), (q6, .inl (cI, En, .inl (fun _ => 0)))] H := hP
  have hD : va_D A [(h, .inr (0, [.ref q1, .ref q2, .ref q3, .ref q4, .ref q9, .ref q5, .null, .int 0])), (q1, .inl (cI, Wn, .inl (fun _ => 0))), (q2, .inl (cI, (En + 1), .inl (fun _ => 0))), (q3, .inl (cI, (En + 1), .inl (fun _ => 0))), (q4, .inl (cI, 8, .inl (fun _ => 0))), (q9, .inr (1, [.ref f1, .ref f2, .int 1])), (f1, .inl (cI, Wn, .inl (fun _ => 0))), (f2, .inl (cI, Wn, .inl (upd (fun _ => 0) 0 (nI Wn)))), (q5, .inl (cZ, (En + 1), .inl (fun _ => 0))), (q6, .inl (cI, En, .inl (fun _ => 0)))] := hD
  refine va_putF (D := (dC, dI)) (ci := 0) (v := .ref q6) (ty := .array .int) (C := RX) (T := TX) (N := 8) hx hb hts hi_X tyX tyX_ok nmX hown hK hP hD hS 0 rfl rfl 6 (by decide) (hts _ fl_X_44) (fun _ h9 => h9) rfl hin rfl (by decide +kernel) rfl rfl (Nat.le_of_ble_eq_true rfl) dX_init_91 (fun H locs hP hD hS => ?_)
  have hP : va_P (dC, dI) gx_cl [(h, .inr (0, [.ref q1, .ref q2, .ref q3, .ref q4, .ref q9, .ref q5, .ref q6, .int 0])), (q1, .inl (cI, Wn, .inl (fun _ => 0))), (q2, .inl (cI, (En + 1), .inl (fun _ => 0))), (q3, .inl (cI, (En + 1), .inl (fun _ => 0))), (q4, .inl (cI, 8, .inl (fun _ => 0))), (q9, .inr (1, [.ref f1, .ref f2, .int 1])), (f1, .inl (cI, Wn, .inl (fun _ => 0))), (f2, .inl (cI, Wn, .inl (upd (fun _ => 0) 0 (nI Wn)))), (q5, .inl (cZ, (En + 1), .inl (fun _ => 0))), (q6, .inl (cI, En, .inl (fun _ => 0)))] H := hP
  have hD : va_D A [(h, .inr (0, [.ref q1, .ref q2, .ref q3, .ref q4, .ref q9, .ref q5, .ref q6, .int 0])), (q1, .inl (cI, Wn, .inl (fun _ => 0))), (q2, .inl (cI, (En + 1), .inl (fun _ => 0))), (q3, .inl (cI, (En + 1), .inl (fun _ => 0))), (q4, .inl (cI, 8, .inl (fun _ => 0))), (q9, .inr (1, [.ref f1, .ref f2, .int 1])), (f1, .inl (cI, Wn, .inl (fun _ => 0))), (f2, .inl (cI, Wn, .inl (upd (fun _ => 0) 0 (nI Wn)))), (q5, .inl (cZ, (En + 1), .inl (fun _ => 0))), (q6, .inl (cI, En, .inl (fun _ => 0)))] := hD
  refine lv_aload_n hx hb dX_init_94 rfl (lv_at hl 2 rfl) ?_
  refine lv_iconst (v := 0) hx hb dX_init_95 (by decide) ?_
  refine va_put (D := (dC, dI)) (ci := 0) (v := .int 0) (ty := .int) (C := RX) (T := TX) (N := 8) hx hb hts hi_X tyX tyX_ok nmX hown hK hP hD hS 0 rfl rfl 7 (by decide) (hts _ fl_X_47) (fun _ h9 => h9) rfl (by decide +kernel) rfl rfl (Nat.le_of_ble_eq_true rfl) dX_init_96 (fun H locs hP hD hS => ?_)
  have hP : va_P (dC, dI) gx_cl [(h, .inr (0, [.ref q1, .ref q2, .ref q3, .ref q4, .ref q9, .ref q5, .ref q6, .int 0])), (q1, .inl (cI, Wn, .inl (fun _ => 0))), (q2, .inl (cI, (En + 1), .inl (fun _ => 0))), (q3, .inl (cI, (En + 1), .inl (fun _ => 0))), (q4, .inl (cI, 8, .inl (fun _ => 0))), (q9, .inr (1, [.ref f1, .ref f2, .int 1])), (f1, .inl (cI, Wn, .inl (fun _ => 0))), (f2, .inl (cI, Wn, .inl (upd (fun _ => 0) 0 (nI Wn)))), (q5, .inl (cZ, (En + 1), .inl (fun _ => 0))), (q6, .inl (cI, En, .inl (fun _ => 0)))] H := hP
  have hD : va_D A [(h, .inr (0, [.ref q1, .ref q2, .ref q3, .ref q4, .ref q9, .ref q5, .ref q6, .int 0])), (q1, .inl (cI, Wn, .inl (fun _ => 0))), (q2, .inl (cI, (En + 1), .inl (fun _ => 0))), (q3, .inl (cI, (En + 1), .inl (fun _ => 0))), (q4, .inl (cI, 8, .inl (fun _ => 0))), (q9, .inr (1, [.ref f1, .ref f2, .int 1])), (f1, .inl (cI, Wn, .inl (fun _ => 0))), (f2, .inl (cI, Wn, .inl (upd (fun _ => 0) 0 (nI Wn)))), (q5, .inl (cZ, (En + 1), .inl (fun _ => 0))), (q6, .inl (cI, En, .inl (fun _ => 0)))] := hD
  have C : GC p s m _ c cX_init 5 RX wsA (dC, dI) gx_cl [(cI, .int), (cZ, .boolean)] A := ⟨⟨hx, hb, hml, hown, hts⟩, hK, hA, wsA_good⟩
  obtain ⟨o, ho⟩ : ∃ o : Nat → Nat, o = fun k => [h, q1, q2, q3, q4, q9, q5, q6, f1, f2].getD k 0 := ⟨_, rfl⟩
  have hP2 := hP.sub (ws' := xw cI cZ o Wn En (x0 Wn)) [0, 1, 2, 3, 4, 5, 8, 9, 6, 7] (by rw [ho]; rfl)
  have hD2 := hD.sub (ws' := xw cI cZ o Wn En (x0 Wn)) [0, 1, 2, 3, 4, 5, 8, 9, 6, 7] (by decide) (by rw [ho]; rfl)
  have h0 : h = o 0 := by rw [ho]; rfl
  have hl : lv_has ls 5 [(0, .ref (o 0))] := by rw [← h0]; exact lv_sub hl [2] rfl
  refine (?_ : GW (9) (0 + Wn + (En + 1) + (En + 1) + 8 + 3 + 800 + (En + 1) + En) p l e _ s m _ below meth c _ 5 (dC, dI) gx_cl A (xw cI cZ o Wn En) (x0 Wn) 99 [(0, .ref (o 0))] []) H locs ls hl hP2 hD2 hS
  refine gx_aload_n C dX_init_99 0 rfl rfl ?_
  refine gx_get C xo_this hi_X 1 (by decide) fl_X_22 rfl dX_init_100 ?_
  refine gx_iconst (v := (-1)) C dX_init_103 (by decide) ?_
  refine gx_fill C xa_addresses (by omega) (Nat.le_of_ble_eq_true rfl) (Nat.le_of_ble_eq_true rfl) (Nat.le_of_ble_eq_true rfl) dX_init_104 (fun S1 => xw_ad _ S1) (fun S1 e1 => ?_) ⟨by show 9 ≤ 9; omega, by show 0 + Wn + (En + 1) + (En + 1) + 8 + 3 + 800 + (En + 1) + En ≤ 2000; omega⟩
  subst e1
  intro H locs ls h1 h2 h3 h4
  refine W.widen (k := 9) (n := 2000) (by omega) (by omega) ?_
  exact W.vret hx hb hr (fun t ht hW => ⟨⟨o, rfl, h0.symm, by rw [ht]; exact h2, va_K.moved hW.alike hK, h3⟩, h4.F ht⟩) h4.2.2 dX_init_107
