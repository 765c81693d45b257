/-! The reference's constructor. -/
/-- what the reference's arrays and numbers hold before its first chunk is given -/
def m0 (W E : Nat) : GS := fun k => if k = 100 then (fun j => if j = 1 then nI W else if j = 2 then nI E else 0) else fun _ => 0
set_option maxHeartbeats 4000000 in
set_option maxRecDepth 100000 in
theorem mt_M_init (l : Launch) (dC : Nat → ClassId) (dI : Nat → Nat → Nat) (cI cZ : ClassId) (h : Nat) (a b : Int32) (Wn En : Nat) (hW : Wn = cx_clamp 16 400 a) (hE : En = cx_clamp 2 40 b) (post : GS → Prop) (hpo : wp_M_give [0, nI Wn] (m0 Wn En) post) (sz : Nat) : Met l yM_init (Cond.code yM_init cM_init 3 none :: wsA) ({ frames := 2, cells := 12, slots := 2000, locals := 100 }) (va_Pc [.ref h, .int a, .int b] (fun U => U.heap.size = sz ∧ va_P (dC, dI) gx_cl [(h, .inr (2, [.int 0, .int 0, .int 0, .null, .null, .null, .null, .null, .null, .int 0, .null, .null, .null, .int 0, .int 0, .null, .null, .null]))] U.heap ∧ va_K (dC, dI) gx_cl [(cI, .int), (cZ, .boolean)] U ∧ va_D (fun _ => True) [(h, .inr (2, [.int 0, .int 0, .int 0, .null, .null, .null, .null, .null, .null, .int 0, .null, .null, .null, .int 0, .int 0, .null, .null, .null]))])) (va_Qv (fun u : (Nat → Nat) × GS => u.1 0 = h ∧ post u.2) (fun u t => va_P (dC, dI) gx_cl (mw cI cZ u.1 u.2) t.heap ∧ va_K (dC, dI) gx_cl [(cI, .int), (cZ, .boolean)] t ∧ va_D (va_A [(h, .inr (2, [.int 0, .int 0, .int 0, .null, .null, .null, .null, .null, .null, .int 0, .null, .null, .null, .int 0, .int 0, .null, .null, .null]))] sz) (mw cI cZ u.1 u.2)) (va_A [(h, .inr (2, [.int 0, .int 0, .int 0, .null, .null, .null, .null, .null, .null, .int 0, .null, .null, .null, .int 0, .int 0, .null, .null, .null]))] sz)) 12 2000 (va_A [(h, .inr (2, [.int 0, .int 0, .int 0, .null, .null, .null, .null, .null, .null, .int 0, .null, .null, .null, .int 0, .int 0, .null, .null, .null]))] sz) := by
  refine Met.ofW (cc := cM_init) (maxL := 3) (ret := none) (by decide) rfl ?_
  intro p e s m args below meth c s₁ B hml hv
  obtain ⟨rfl, hsz, hP, hK, hD0⟩ := hv
  have hx := B.exec
  have hb := B.bytes
  have hr := B.returns
  have hts : ∀ w ∈ wsA, w.before _ s = true := fun w hw => atoms_spec (ws := Cond.code yM_init cM_init 3 none :: wsA) B.pre w (List.mem_cons_of_mem _ hw)
  have hown : s.vm.findClass RM = some m.cls := findClass_of_methodNamed B.named
  have hlocks := B.notSynchronized
  have hin : meth.name = "<init>" := (name_of_methodNamed B.named B.method).1
  subst hsz
  have hD := hD0.self (sz := s.heap.size)
  generalize hAe : va_A [(h, .inr (2, [.int 0, .int 0, .int 0, .null, .null, .null, .null, .null, .null, .int 0, .null, .null, .null, .int 0, .int 0, .null, .null, .null]))] s.heap.size = A at hD ⊢
  have hA : ∀ q : Nat, s.heap.size ≤ q → A q := fun q h => by rw [← hAe]; exact Or.inr h
  have hS : va_S A s.heap s.heap [] := va_S.rf
  have hP : va_P (dC, dI) gx_cl [(h, .inr (2, [.int 0, .int 0, .int 0, .null, .null, .null, .null, .null, .null, .int 0, .null, .null, .null, .int 0, .int 0, .null, .null, .null]))] s.heap := hP
  have hl := lv_entry ([.ref h, .int a, .int b]) (n := 3) (Nat.le_of_ble_eq_true rfl)
  rw [lg_entry_eq]
  generalize (lg_sl ([.ref h, .int a, .int b]) ++ List.replicate (3 - (lg_sl ([.ref h, .int a, .int b])).length) Slot.unset).toArray = ls at hl ⊢
  have hl : lv_has ls 3 [(0, .ref h), (1, .int a), (2, .int b)] := hl
  refine lv_aload_n hx hb dM_init_0 rfl (lv_at hl 0 rfl) ?_
  refine W.objInit hx hb hown (hts _ lo_M) (hts _ im_obj) (hts _ cd_obj) rfl (by rw [hml]; exact hl.1) rfl dM_init_1 (Nat.le_of_ble_eq_true rfl) (Nat.le_of_ble_eq_true rfl) ?_
  refine W.eq (g2 := F0 m 4 ls []) rfl ?_
  refine lv_aload_n hx hb dM_init_4 rfl (lv_at hl 0 rfl) ?_
  refine lv_bipush (v := 8) hx hb dM_init_5 (by decide) ?_
  refine va_newa (atype := .int) (N' := 8) (a0 := (8, .inl (fun _ => 0))) (ty := .int) (n := 8) hx hb (hts _ ac_int) rfl hK hP hD hS hA (fun _ => rfl) (by decide) (by decide) (by decide) (by show 0 + 1 ≤ 12; omega) (by show 0 + 8 ≤ 2000; omega) dM_init_7 (fun q1 cA H hK1 hP hD hS => ?_)
  have ec := cA_eq (fun C h => by cases h) hK1 (t0 := 0) rfl
  rw [ec] at hP hD
  clear hK1
  have hP : va_P (dC, dI) gx_cl [(h, .inr (2, [.int 0, .int 0, .int 0, .null, .null, .null, .null, .null, .null, .int 0, .null, .null, .null, .int 0, .int 0, .null, .null, .null])), (q1, .inl (cI, 8, .inl (fun _ => 0)))] H := hP
  have hD : va_D A [(h, .inr (2, [.int 0, .int 0, .int 0, .null, .null, .null, .null, .null, .null, .int 0, .null, .null, .null, .int 0, .int 0, .null, .null, .null])), (q1, .inl (cI, 8, .inl (fun _ => 0)))] := hD
  refine va_putF (D := (dC, dI)) (ci := 2) (v := .ref q1) (ty := .array .int) (C := RM) (T := TM) (N := 18) hx hb hts hi_M tyM tyM_ok nmM hown hK hP hD hS 0 rfl rfl 3 (by decide) (hts _ fl_M_7) (fun _ h9 => h9) rfl hin rfl (by decide +kernel) rfl rfl (Nat.le_of_ble_eq_true rfl) dM_init_9 (fun H locs hP hD hS => ?_)
  have hP : va_P (dC, dI) gx_cl [(h, .inr (2, [.int 0, .int 0, .int 0, .ref q1, .null, .null, .null, .null, .null, .int 0, .null, .null, .null, .int 0, .int 0, .null, .null, .null])), (q1, .inl (cI, 8, .inl (fun _ => 0)))] H := hP
  have hD : va_D A [(h, .inr (2, [.int 0, .int 0, .int 0, .ref q1, .null, .null, .null, .null, .null, .int 0, .null, .null, .null, .int 0, .int 0, .null, .null, .null])), (q1, .inl (cI, 8, .inl (fun _ => 0)))] := hD
  refine lv_aload_n hx hb dM_init_12 rfl (lv_at hl 0 rfl) ?_
  refine lv_bipush (v := 41) hx hb dM_init_13 (by decide) ?_
  refine va_newa (atype := .boolean) (N' := 41) (a0 := (41, .inl (fun _ => 0))) (ty := .boolean) (n := 41) hx hb (hts _ ac_boolean) rfl hK hP hD hS hA (fun _ => rfl) (by decide) (by decide) (by decide) (by show 1 + 1 ≤ 12; omega) (by show 0 + 8 + 41 ≤ 2000; omega) dM_init_15 (fun q2 cA H hK1 hP hD hS => ?_)
  have ec := cA_eq (fun C h => by cases h) hK1 (t0 := 1) rfl
  rw [ec] at hP hD
  clear hK1
  have hP : va_P (dC, dI) gx_cl [(h, .inr (2, [.int 0, .int 0, .int 0, .ref q1, .null, .null, .null, .null, .null, .int 0, .null, .null, .null, .int 0, .int 0, .null, .null, .null])), (q1, .inl (cI, 8, .inl (fun _ => 0))), (q2, .inl (cZ, 41, .inl (fun _ => 0)))] H := hP
  have hD : va_D A [(h, .inr (2, [.int 0, .int 0, .int 0, .ref q1, .null, .null, .null, .null, .null, .int 0, .null, .null, .null, .int 0, .int 0, .null, .null, .null])), (q1, .inl (cI, 8, .inl (fun _ => 0))), (q2, .inl (cZ, 41, .inl (fun _ => 0)))] := hD
  refine va_putF (D := (dC, dI)) (ci := 2) (v := .ref q2) (ty := .array .boolean) (C := RM) (T := TM) (N := 18) hx hb hts hi_M tyM tyM_ok nmM hown hK hP hD hS 0 rfl rfl 4 (by decide) (hts _ fl_M_13) (fun _ h9 => h9) rfl hin rfl (by decide +kernel) rfl rfl (Nat.le_of_ble_eq_true rfl) dM_init_17 (fun H locs hP hD hS => ?_)
  have hP : va_P (dC, dI) gx_cl [(h, .inr (2, [.int 0, .int 0, .int 0, .ref q1, .ref q2, .null, .null, .null, .null, .int 0, .null, .null, .null, .int 0, .int 0, .null, .null, .null])), (q1, .inl (cI, 8, .inl (fun _ => 0))), (q2, .inl (cZ, 41, .inl (fun _ => 0)))] H := hP
  have hD : va_D A [(h, .inr (2, [.int 0, .int 0, .int 0, .ref q1, .ref q2, .null, .null, .null, .null, .int 0, .null, .null, .null, .int 0, .int 0, .null, .null, .null])), (q1, .inl (cI, 8, .inl (fun _ => 0))), (q2, .inl (cZ, 41, .inl (fun _ => 0)))] := hD
  refine lv_aload_n hx hb dM_init_20 rfl (lv_at hl 0 rfl) ?_
  refine lv_bipush (v := 41) hx hb dM_init_21 (by decide) ?_
  refine va_newa (atype := .int) (N' := 41) (a0 := (41, .inl (fun _ => 0))) (ty := .int) (n := 41) hx hb (hts _ ac_int) rfl hK hP hD hS hA (fun _ => rfl) (by decide) (by decide) (by decide) (by show 2 + 1 ≤ 12; omega) (by show 0 + 8 + 41 + 41 ≤ 2000; omega) dM_init_23 (fun q3 cA H hK1 hP hD hS => ?_)
  have ec := cA_eq (fun C h => by cases h) hK1 (t0 := 0) rfl
  rw [ec] at hP hD
  clear hK1
  have hP : va_P (dC, dI) gx_cl [(h, .inr (2, [.int 0, .int 0, .int 0, .ref q1, .ref q2, .null, .null, .null, .null, .int 0, .null, .null, .null, .int 0, .int 0, .null, .null, .null])), (q1, .inl (cI, 8, .inl (fun _ => 0))), (q2, .inl (cZ, 41, .inl (fun _ => 0))), (q3, .inl (cI, 41, .inl (fun _ => 0)))] H := hP
  have hD : va_D A [(h, .inr (2, [.int 0, .int 0, .int 0, .ref q1, .ref q2, .null, .null, .null, .null, .int 0, .null, .null, .null, .int 0, .int 0, .null, .null, .null])), (q1, .inl (cI, 8, .inl (fun _ => 0))), (q2, .inl (cZ, 41, .inl (fun _ => 0))), (q3, .inl (cI, 41, .inl (fun _ => 0)))] := hD
  refine va_putF (D := (dC, dI)) (ci := 2) (v := .ref q3) (ty := .array .int) (C := RM) (T := TM) (N := 18) hx hb hts hi_M tyM tyM_ok nmM hown hK hP hD hS 0 rfl rfl 5 (by decide) (hts _ fl_M_17) (fun _ h9 => h9) rfl hin rfl (by decide +kernel) rfl rfl (Nat.le_of_ble_eq_true rfl) dM_init_25 (fun H locs hP hD hS => ?_)
  have hP : va_P (dC, dI) gx_cl [(h, .inr (2, [.int 0, .int 0, .int 0, .ref q1, .ref q2, .ref q3, .null, .null, .null, .int 0, .null, .null, .null, .int 0, .int 0, .null, .null, .null])), (q1, .inl (cI, 8, .inl (fun _ => 0))), (q2, .inl (cZ, 41, .inl (fun _ => 0))), (q3, .inl (cI, 41, .inl (fun _ => 0)))] H := hP
  have hD : va_D A [(h, .inr (2, [.int 0, .int 0, .int 0, .ref q1, .ref q2, .ref q3, .null, .null, .null, .int 0, .null, .null, .null, .int 0, .int 0, .null, .null, .null])), (q1, .inl (cI, 8, .inl (fun _ => 0))), (q2, .inl (cZ, 41, .inl (fun _ => 0))), (q3, .inl (cI, 41, .inl (fun _ => 0)))] := hD
  refine lv_aload_n hx hb dM_init_28 rfl (lv_at hl 0 rfl) ?_
  refine lv_bipush (v := 41) hx hb dM_init_29 (by decide) ?_
  refine va_newa (atype := .int) (N' := 41) (a0 := (41, .inl (fun _ => 0))) (ty := .int) (n := 41) hx hb (hts _ ac_int) rfl hK hP hD hS hA (fun _ => rfl) (by decide) (by decide) (by decide) (by show 3 + 1 ≤ 12; omega) (by show 0 + 8 + 41 + 41 + 41 ≤ 2000; omega) dM_init_31 (fun q4 cA H hK1 hP hD hS => ?_)
  have ec := cA_eq (fun C h => by cases h) hK1 (t0 := 0) rfl
  rw [ec] at hP hD
  clear hK1
  have hP : va_P (dC, dI) gx_cl [(h, .inr (2, [.int 0, .int 0, .int 0, .ref q1, .ref q2, .ref q3, .null, .null, .null, .int 0, .null, .null, .null, .int 0, .int 0, .null, .null, .null])), (q1, .inl (cI, 8, .inl (fun _ => 0))), (q2, .inl (cZ, 41, .inl (fun _ => 0))), (q3, .inl (cI, 41, .inl (fun _ => 0))), (q4, .inl (cI, 41, .inl (fun _ => 0)))] H := hP
  have hD : va_D A [(h, .inr (2, [.int 0, .int 0, .int 0, .ref q1, .ref q2, .ref q3, .null, .null, .null, .int 0, .null, .null, .null, .int 0, .int 0, .null, .null, .null])), (q1, .inl (cI, 8, .inl (fun _ => 0))), (q2, .inl (cZ, 41, .inl (fun _ => 0))), (q3, .inl (cI, 41, .inl (fun _ => 0))), (q4, .inl (cI, 41, .inl (fun _ => 0)))] := hD
  refine va_putF (D := (dC, dI)) (ci := 2) (v := .ref q4) (ty := .array .int) (C := RM) (T := TM) (N := 18) hx hb hts hi_M tyM tyM_ok nmM hown hK hP hD hS 0 rfl rfl 6 (by decide) (hts _ fl_M_20) (fun _ h9 => h9) rfl hin rfl (by decide +kernel) rfl rfl (Nat.le_of_ble_eq_true rfl) dM_init_33 (fun H locs hP hD hS => ?_)
  have hP : va_P (dC, dI) gx_cl [(h, .inr (2, [.int 0, .int 0, .int 0, .ref q1, .ref q2, .ref q3, .ref q4, .null, .null, .int 0, .null, .null, .null, .int 0, .int 0, .null, .null, .null])), (q1, .inl (cI, 8, .inl (fun _ => 0))), (q2, .inl (cZ, 41, .inl (fun _ => 0))), (q3, .inl (cI, 41, .inl (fun _ => 0))), (q4, .inl (cI, 41, .inl (fun _ => 0)))] H := hP
  have hD : va_D A [(h, .inr (2, [.int 0, .int 0, .int 0, .ref q1, .ref q2, .ref q3, .ref q4, .null, .null, .int 0, .null, .null, .null, .int 0, .int 0, .null, .null, .null])), (q1, .inl (cI, 8, .inl (fun _ => 0))), (q2, .inl (cZ, 41, .inl (fun _ => 0))), (q3, .inl (cI, 41, .inl (fun _ => 0))), (q4, .inl (cI, 41, .inl (fun _ => 0)))] := hD
  refine lv_aload_n hx hb dM_init_36 rfl (lv_at hl 0 rfl) ?_
  refine lv_bipush (v := 41) hx hb dM_init_37 (by decide) ?_
  refine va_newa (atype := .int) (N' := 41) (a0 := (41, .inl (fun _ => 0))) (ty := .int) (n := 41) hx hb (hts _ ac_int) rfl hK hP hD hS hA (fun _ => rfl) (by decide) (by decide) (by decide) (by show 4 + 1 ≤ 12; omega) (by show 0 + 8 + 41 + 41 + 41 + 41 ≤ 2000; omega) dM_init_39 (fun q5 cA H hK1 hP hD hS => ?_)
  have ec := cA_eq (fun C h => by cases h) hK1 (t0 := 0) rfl
  rw [ec] at hP hD
  clear hK1
  have hP : va_P (dC, dI) gx_cl [(h, .inr (2, [.int 0, .int 0, .int 0, .ref q1, .ref q2, .ref q3, .ref q4, .null, .null, .int 0, .null, .null, .null, .int 0, .int 0, .null, .null, .null])), (q1, .inl (cI, 8, .inl (fun _ => 0))), (q2, .inl (cZ, 41, .inl (fun _ => 0))), (q3, .inl (cI, 41, .inl (fun _ => 0))), (q4, .inl (cI, 41, .inl (fun _ => 0))), (q5, .inl (cI, 41, .inl (fun _ => 0)))] H := hP
  have hD : va_D A [(h, .inr (2, [.int 0, .int 0, .int 0, .ref q1, .ref q2, .ref q3, .ref q4, .null, .null, .int 0, .null, .null, .null, .int 0, .int 0, .null, .null, .null])), (q1, .inl (cI, 8, .inl (fun _ => 0))), (q2, .inl (cZ, 41, .inl (fun _ => 0))), (q3, .inl (cI, 41, .inl (fun _ => 0))), (q4, .inl (cI, 41, .inl (fun _ => 0))), (q5, .inl (cI, 41, .inl (fun _ => 0)))] := hD
  refine va_putF (D := (dC, dI)) (ci := 2) (v := .ref q5) (ty := .array .int) (C := RM) (T := TM) (N := 18) hx hb hts hi_M tyM tyM_ok nmM hown hK hP hD hS 0 rfl rfl 7 (by decide) (hts _ fl_M_23) (fun _ h9 => h9) rfl hin rfl (by decide +kernel) rfl rfl (Nat.le_of_ble_eq_true rfl) dM_init_41 (fun H locs hP hD hS => ?_)
  have hP : va_P (dC, dI) gx_cl [(h, .inr (2, [.int 0, .int 0, .int 0, .ref q1, .ref q2, .ref q3, .ref q4, .ref q5, .null, .int 0, .null, .null, .null, .int 0, .int 0, .null, .null, .null])), (q1, .inl (cI, 8, .inl (fun _ => 0))), (q2, .inl (cZ, 41, .inl (fun _ => 0))), (q3, .inl (cI, 41, .inl (fun _ => 0))), (q4, .inl (cI, 41, .inl (fun _ => 0))), (q5, .inl (cI, 41, .inl (fun _ => 0)))] H := hP
  have hD : va_D A [(h, .inr (2, [.int 0, .int 0, .int 0, .ref q1, .ref q2, .ref q3, .ref q4, .ref q5, .null, .int 0, .null, .null, .null, .int 0, .int 0, .null, .null, .null])), (q1, .inl (cI, 8, .inl (fun _ => 0))), (q2, .inl (cZ, 41, .inl (fun _ => 0))), (q3, .inl (cI, 41, .inl (fun _ => 0))), (q4, .inl (cI, 41, .inl (fun _ => 0))), (q5, .inl (cI, 41, .inl (fun _ => 0)))] := hD
  refine lv_aload_n hx hb dM_init_44 rfl (lv_at hl 0 rfl) ?_
  refine lv_sipush (v := 400) hx hb dM_init_45 (by decide) ?_
  refine va_newa (atype := .int) (N' := 400) (a0 := (400, .inl (fun _ => 0))) (ty := .int) (n := 400) hx hb (hts _ ac_int) rfl hK hP hD hS hA (fun _ => rfl) (by decide) (by decide) (by decide) (by show 5 + 1 ≤ 12; omega) (by show 0 + 8 + 41 + 41 + 41 + 41 + 400 ≤ 2000; omega) dM_init_48 (fun q6 cA H hK1 hP hD hS => ?_)
  have ec := cA_eq (fun C h => by cases h) hK1 (t0 := 0) rfl
  rw [ec] at hP hD
  clear hK1
  have hP : va_P (dC, dI) gx_cl [(h, .inr (2, [.int 0, .int 0, .int 0, .ref q1, .ref q2, .ref q3, .ref q4, .ref q5, .null, .int 0, .null, .null, .null, .int 0, .int 0, .null, .null, .null])), (q1, .inl (cI, 8, .inl (fun _ => 0))), (q2, .inl (cZ, 41, .inl (fun _ => 0))), (q3, .inl (cI, 41, .inl (fun _ => 0))), (q4, .inl (cI, 41, .inl (fun _ => 0))), (q5, .inl (cI, 41, .inl (fun _ => 0))), (q6, .inl (cI, 400, .inl (fun _ => 0)))] H := hP
  have hD : va_D A [(h, .inr (2, [.int 0, .int 0, .int 0, .ref q1, .ref q2, .ref q3, .ref q4, .ref q5, .null, .int 0, .null, .null, .null, .int 0, .int 0, .null, .null, .null])), (q1, .inl (cI, 8, .inl (fun _ => 0))), (q2, .inl (cZ, 41, .inl (fun _ => 0))), (q3, .inl (cI, 41, .inl (fun _ => 0))), (q4, .inl (cI, 41, .inl (fun _ => 0))), (q5, .inl (cI, 41, .inl (fun _ => 0))), (q6, .inl (cI, 400, .inl (fun _ => 0)))] := hD
  refine va_putF (D := (dC, dI)) (ci := 2) (v := .ref q6) (ty := .array .int) (C := RM) (T := TM) (N := 18) hx hb hts hi_M tyM tyM_ok nmM hown hK hP hD hS 0 rfl rfl 8 (by decide) (hts _ fl_M_26) (fun _ h9 => h9) rfl hin rfl (by decide +kernel) rfl rfl (Nat.le_of_ble_eq_true rfl) dM_init_50 (fun H locs hP hD hS => ?_)
  have hP : va_P (dC, dI) gx_cl [(h, .inr (2, [.int 0, .int 0, .int 0, .ref q1, .ref q2, .ref q3, .ref q4, .ref q5, .ref q6, .int 0, .null, .null, .null, .int 0, .int 0, .null, .null, .null])), (q1, .inl (cI, 8, .inl (fun _ => 0))), (q2, .inl (cZ, 41, .inl (fun _ => 0))), (q3, .inl (cI, 41, .inl (fun _ => 0))), (q4, .inl (cI, 41, .inl (fun _ => 0))), (q5, .inl (cI, 41, .inl (fun _ => 0))), (q6, .inl (cI, 400, .inl (fun _ => 0)))] H := hP
  have hD : va_D A [(h, .inr (2, [.int 0, .int 0, .int 0, .ref q1, .ref q2, .ref q3, .ref q4, .ref q5, .ref q6, .int 0, .null, .null, .null, .int 0, .int 0, .null, .null, .null])), (q1, .inl (cI, 8, .inl (fun _ => 0))), (q2, .inl (cZ, 41, .inl (fun _ => 0))), (q3, .inl (cI, 41, .inl (fun _ => 0))), (q4, .inl (cI, 41, .inl (fun _ => 0))), (q5, .inl (cI, 41, .inl (fun _ => 0))), (q6, .inl (cI, 400, .inl (fun _ => 0)))] := hD
  refine lv_aload_n hx hb dM_init_53 rfl (lv_at hl 0 rfl) ?_
  refine lv_sipush (v := 400) hx hb dM_init_54 (by decide) ?_
  refine va_newa (atype := .int) (N' := 400) (a0 := (400, .inl (fun _ => 0))) (ty := .int) (n := 400) hx hb (hts _ ac_int) rfl hK hP hD hS hA (fun _ => rfl) (by decide) (by decide) (by decide) (by show 6 + 1 ≤ 12; omega) (by show 0 + 8 + 41 + 41 + 41 + 41 + 400 + 400 ≤ 2000; omega) dM_init_57 (fun q7 cA H hK1 hP hD hS => ?_)
  have ec := cA_eq (fun C h => by cases h) hK1 (t0 := 0) rfl
  rw [ec] at hP hD
  clear hK1
  have hP : va_P (dC, dI) gx_cl [(h, .inr (2, [.int 0, .int 0, .int 0, .ref q1, .ref q2, .ref q3, .ref q4, .ref q5, .ref q6, .int 0, .null, .null, .null, .int 0, .int 0, .null, .null, .null])), (q1, .inl (cI, 8, .inl (fun _ => 0))), (q2, .inl (cZ, 41, .inl (fun _ => 0))), (q3, .inl (cI, 41, .inl (fun _ => 0))), (q4, .inl (cI, 41, .inl (fun _ => 0))), (q5, .inl (cI, 41, .inl (fun _ => 0))), (q6, .inl (cI, 400, .inl (fun _ => 0))), (q7, .inl (cI, 400, .inl (fun _ => 0)))] H := hP
  have hD : va_D A [(h, .inr (2, [.int 0, .int 0, .int 0, .ref q1, .ref q2, .ref q3, .ref q4, .ref q5, .ref q6, .int 0, .null, .null, .null, .int 0, .int 0, .null, .null, .null])), (q1, .inl (cI, 8, .inl (fun _ => 0))), (q2, .inl (cZ, 41, .inl (fun _ => 0))), (q3, .inl (cI, 41, .inl (fun _ => 0))), (q4, .inl (cI, 41, .inl (fun _ => 0))), (q5, .inl (cI, 41, .inl (fun _ => 0))), (q6, .inl (cI, 400, .inl (fun _ => 0))), (q7, .inl (cI, 400, .inl (fun _ => 0)))] := hD
  refine va_putF (D := (dC, dI)) (ci := 2) (v := .ref q7) (ty := .array .int) (C := RM) (T := TM) (N := 18) hx hb hts hi_M tyM tyM_ok nmM hown hK hP hD hS 0 rfl rfl 10 (by decide) (hts _ fl_M_29) (fun _ h9 => h9) rfl hin rfl (by decide +kernel) rfl rfl (Nat.le_of_ble_eq_true rfl) dM_init_59 (fun H locs hP hD hS => ?_)
  have hP : va_P (dC, dI) gx_cl [(h, .inr (2, [.int 0, .int 0, .int 0, .ref q1, .ref q2, .ref q3, .ref q4, .ref q5, .ref q6, .int 0, .ref q7, .null, .null, .int 0, .int 0, .null, .null, .null])), (q1, .inl (cI, 8, .inl (fun _ => 0))), (q2, .inl (cZ, 41, .inl (fun _ => 0))), (q3, .inl (cI, 41, .inl (fun _ => 0))), (q4, .inl (cI, 41, .inl (fun _ => 0))), (q5, .inl (cI, 41, .inl (fun _ => 0))), (q6, .inl (cI, 400, .inl (fun _ => 0))), (q7, .inl (cI, 400, .inl (fun _ => 0)))] H := hP
  have hD : va_D A [(h, .inr (2, [.int 0, .int 0, .int 0, .ref q1, .ref q2, .ref q3, .ref q4, .ref q5, .ref q6, .int 0, .ref q7, .null, .null, .int 0, .int 0, .null, .null, .null])), (q1, .inl (cI, 8, .inl (fun _ => 0))), (q2, .inl (cZ, 41, .inl (fun _ => 0))), (q3, .inl (cI, 41, .inl (fun _ => 0))), (q4, .inl (cI, 41, .inl (fun _ => 0))), (q5, .inl (cI, 41, .inl (fun _ => 0))), (q6, .inl (cI, 400, .inl (fun _ => 0))), (q7, .inl (cI, 400, .inl (fun _ => 0)))] := hD
  refine lv_aload_n hx hb dM_init_62 rfl (lv_at hl 0 rfl) ?_
  refine lv_sipush (v := 400) hx hb dM_init_63 (by decide) ?_
  refine va_newa (atype := .int) (N' := 400) (a0 := (400, .inl (fun _ => 0))) (ty := .int) (n := 400) hx hb (hts _ ac_int) rfl hK hP hD hS hA (fun _ => rfl) (by decide) (by decide) (by decide) (by show 7 + 1 ≤ 12; omega) (by show 0 + 8 + 41 + 41 + 41 + 41 + 400 + 400 + 400 ≤ 2000; omega) dM_init_66 (fun q8 cA H hK1 hP hD hS => ?_)
  have ec := cA_eq (fun C h => by cases h) hK1 (t0 := 0) rfl
  rw [ec] at hP hD
  clear hK1
  have hP : va_P (dC, dI) gx_cl [(h, .inr (2, [.int 0, .int 0, .int 0, .ref q1, .ref q2, .ref q3, .ref q4, .ref q5, .ref q6, .int 0, .ref q7, .null, .null, .int 0, .int 0, .null, .null, .null])), (q1, .inl (cI, 8, .inl (fun _ => 0))), (q2, .inl (cZ, 41, .inl (fun _ => 0))), (q3, .inl (cI, 41, .inl (fun _ => 0))), (q4, .inl (cI, 41, .inl (fun _ => 0))), (q5, .inl (cI, 41, .inl (fun _ => 0))), (q6, .inl (cI, 400, .inl (fun _ => 0))), (q7, .inl (cI, 400, .inl (fun _ => 0))), (q8, .inl (cI, 400, .inl (fun _ => 0)))] H := hP
  have hD : va_D A [(h, .inr (2, [.int 0, .int 0, .int 0, .ref q1, .ref q2, .ref q3, .ref q4, .ref q5, .ref q6, .int 0, .ref q7, .null, .null, .int 0, .int 0, .null, .null, .null])), (q1, .inl (cI, 8, .inl (fun _ => 0))), (q2, .inl (cZ, 41, .inl (fun _ => 0))), (q3, .inl (cI, 41, .inl (fun _ => 0))), (q4, .inl (cI, 41, .inl (fun _ => 0))), (q5, .inl (cI, 41, .inl (fun _ => 0))), (q6, .inl (cI, 400, .inl (fun _ => 0))), (q7, .inl (cI, 400, .inl (fun _ => 0))), (q8, .inl (cI, 400, .inl (fun _ => 0)))] := hD
  refine va_putF (D := (dC, dI)) (ci := 2) (v := .ref q8) (ty := .array .int) (C := RM) (T := TM) (N := 18) hx hb hts hi_M tyM tyM_ok nmM hown hK hP hD hS 0 rfl rfl 11 (by decide) (hts _ fl_M_32) (fun _ h9 => h9) rfl hin rfl (by decide +kernel) rfl rfl (Nat.le_of_ble_eq_true rfl) dM_init_68 (fun H locs hP hD hS => ?_)
  have hP : va_P (dC, dI) gx_cl [(h, .inr (2, [.int 0, .int 0, .int 0, .ref q1, .ref q2, .ref q3, .ref q4, .ref q5, .ref q6, .int 0, .ref q7, .ref q8, .null, .int 0, .int 0, .null, .null, .null])), (q1, .inl (cI, 8, .inl (fun _ => 0))), (q2, .inl (cZ, 41, .inl (fun _ => 0))), (q3, .inl (cI, 41, .inl (fun _ => 0))), (q4, .inl (cI, 41, .inl (fun _ => 0))), (q5, .inl (cI, 41, .inl (fun _ => 0))), (q6, .inl (cI, 400, .inl (fun _ => 0))), (q7, .inl (cI, 400, .inl (fun _ => 0))), (q8, .inl (cI, 400, .inl (fun _ => 0)))] H := hP
  have hD : va_D A [(h, .inr (2, [.int 0, .int 0, .int 0, .ref q1, .ref q2, .ref q3, .ref q4, .ref q5, .ref q6, .int 0, .ref q7, .ref q8, .null, .int 0, .int 0, .null, .null, .null])), (q1, .inl (cI, 8, .inl (fun _ => 0))), (q2, .inl (cZ, 41, .inl (fun _ => 0))), (q3, .inl (cI, 41, .inl (fun _ => 0))), (q4, .inl (cI, 41, .inl (fun _ => 0))), (q5, .inl (cI, 41, .inl (fun _ => 0))), (q6, .inl (cI, 400, .inl (fun _ => 0))), (q7, .inl (cI, 400, .inl (fun _ => 0))), (q8, .inl (cI, 400, .inl (fun _ => 0)))] := hD
  refine lv_aload_n hx hb dM_init_71 rfl (lv_at hl 0 rfl) ?_
  refine lv_sipush (v := 400) hx hb dM_init_72 (by decide) ?_
  refine va_newa (atype := .int) (N' := 400) (a0 := (400, .inl (fun _ => 0))) (ty := .int) (n := 400) hx hb (hts _ ac_int) rfl hK hP hD hS hA (fun _ => rfl) (by decide) (by decide) (by decide) (by show 8 + 1 ≤ 12; omega) (by show 0 + 8 + 41 + 41 + 41 + 41 + 400 + 400 + 400 + 400 ≤ 2000; omega) dM_init_75 (fun q9 cA H hK1 hP hD hS => ?_)
  have ec := cA_eq (fun C h => by cases h) hK1 (t0 := 0) rfl
  rw [ec] at hP hD
  clear hK1
  have hP : va_P (dC, dI) gx_cl [(h, .inr (2, [.int 0, .int 0, .int 0, .ref q1, .ref q2, .ref q3, .ref q4, .ref q5, .ref q6, .int 0, .ref q7, .ref q8, .null, .int 0, .int 0, .null, .null, .null])), (q1, .inl (cI, 8, .inl (fun _ => 0))), (q2, .inl (cZ, 41, .inl (fun _ => 0))), (q3, .inl (cI, 41, .inl (fun _ => 0))), (q4, .inl (cI, 41, .inl (fun _ => 0))), (q5, .inl (cI, 41, .inl (fun _ => 0))), (q6, .inl (cI, 400, .inl (fun _ => 0))), (q7, .inl (cI, 400, .inl (fun _ => 0))), (q8, .inl (cI, 400, .inl (fun _ => 0))), (q9, .inl (cI, 400, .inl (fun _ => 0)))] H := hP
  have hD : va_D A [(h, .inr (2, [.int 0, .int 0, .int 0, .ref q1, .ref q2, .ref q3, .ref q4, .ref q5, .ref q6, .int 0, .ref q7, .ref q8, .null, .int 0, .int 0, .null, .null, .null])), (q1, .inl (cI, 8, .inl (fun _ => 0))), (q2, .inl (cZ, 41, .inl (fun _ => 0))), (q3, .inl (cI, 41, .inl (fun _ => 0))), (q4, .inl (cI, 41, .inl (fun _ => 0))), (q5, .inl (cI, 41, .inl (fun _ => 0))), (q6, .inl (cI, 400, .inl (fun _ => 0))), (q7, .inl (cI, 400, .inl (fun _ => 0))), (q8, .inl (cI, 400, .inl (fun _ => 0))), (q9, .inl (cI, 400, .inl (fun _ => 0)))] := hD
  refine va_putF (D := (dC, dI)) (ci := 2) (v := .ref q9) (ty := .array .int) (C := RM) (T := TM) (N := 18) hx hb hts hi_M tyM tyM_ok nmM hown hK hP hD hS 0 rfl rfl 12 (by decide) (hts _ fl_M_35) (fun _ h9 => h9) rfl hin rfl (by decide +kernel) rfl rfl (Nat.le_of_ble_eq_true rfl) dM_init_77 (fun H locs hP hD hS => ?_)
  have hP : va_P (dC, dI) gx_cl [(h, .inr (2, [.int 0, .int 0, .int 0, .ref q1, .ref q2, .ref q3, .ref q4, .ref q5, .ref q6, .int 0, .ref q7, .ref q8, .ref q9, .int 0, .int 0, .null, .null, .null])), (q1, .inl (cI, 8, .inl (fun _ => 0))), (q2, .inl (cZ, 41, .inl (fun _ => 0))), (q3, .inl (cI, 41, .inl (fun _ => 0))), (q4, .inl (cI, 41, .inl (fun _ => 0))), (q5, .inl (cI, 41, .inl (fun _ => 0))), (q6, .inl (cI, 400, .inl (fun _ => 0))), (q7, .inl (cI, 400, .inl (fun _ => 0))), (q8, .inl (cI, 400, .inl (fun _ => 0))), (q9, .inl (cI, 400, .inl (fun _ => 0)))] H := hP
  have hD : va_D A [(h, .inr (2, [.int 0, .int 0, .int 0, .ref q1, .ref q2, .ref q3, .ref q4, .ref q5, .ref q6, .int 0, .ref q7, .ref q8, .ref q9, .int 0, .int 0, .null, .null, .null])), (q1, .inl (cI, 8, .inl (fun _ => 0))), (q2, .inl (cZ, 41, .inl (fun _ => 0))), (q3, .inl (cI, 41, .inl (fun _ => 0))), (q4, .inl (cI, 41, .inl (fun _ => 0))), (q5, .inl (cI, 41, .inl (fun _ => 0))), (q6, .inl (cI, 400, .inl (fun _ => 0))), (q7, .inl (cI, 400, .inl (fun _ => 0))), (q8, .inl (cI, 400, .inl (fun _ => 0))), (q9, .inl (cI, 400, .inl (fun _ => 0)))] := hD
  refine lv_aload_n hx hb dM_init_80 rfl (lv_at hl 0 rfl) ?_
  refine lv_bipush (v := 41) hx hb dM_init_81 (by decide) ?_
  refine va_newa (atype := .int) (N' := 41) (a0 := (41, .inl (fun _ => 0))) (ty := .int) (n := 41) hx hb (hts _ ac_int) rfl hK hP hD hS hA (fun _ => rfl) (by decide) (by decide) (by decide) (by show 9 + 1 ≤ 12; omega) (by show 0 + 8 + 41 + 41 + 41 + 41 + 400 + 400 + 400 + 400 + 41 ≤ 2000; omega) dM_init_83 (fun q10 cA H hK1 hP hD hS => ?_)
  have ec := cA_eq (fun C h => by cases h) hK1 (t0 := 0) rfl
  rw [ec] at hP hD
  clear hK1
  have hP : va_P (dC, dI) gx_cl [(h, .inr (2, [.int 0, .int 0, .int 0, .ref q1, .ref q2, .ref q3, .ref q4, .ref q5, .ref q6, .int 0, .ref q7, .ref q8, .ref q9, .int 0, .int 0, .null, .null, .null])), (q1, .inl (cI, 8, .inl (fun _ => 0))), (q2, .inl (cZ, 41, .inl (fun _ => 0))), (q3, .inl (cI, 41, .inl (fun _ => 0))), (q4, .inl (cI, 41, .inl (fun _ => 0))), (q5, .inl (cI, 41, .inl (fun _ => 0))), (q6, .inl (cI, 400, .inl (fun _ => 0))), (q7, .inl (cI, 400, .inl (fun _ => 0))), (q8, .inl (cI, 400, .inl (fun _ => 0))), (q9, .inl (cI, 400, .inl (fun _ => 0))), (q10, .inl (cI, 41, .inl (fun _ => 0)))] H := hP
  have hD : va_D A [(h, .inr (2, [.int 0, .int 0, .int 0, .ref q1, .ref q2, .ref q3, .ref q4, .ref q5, .ref q6, .int 0, .ref q7, .ref q8, .ref q9, .int 0, .int 0, .null, .null, .null])), (q1, .inl (cI, 8, .inl (fun _ => 0))), (q2, .inl (cZ, 41, .inl (fun _ => 0))), (q3, .inl (cI, 41, .inl (fun _ => 0))), (q4, .inl (cI, 41, .inl (fun _ => 0))), (q5, .inl (cI, 41, .inl (fun _ => 0))), (q6, .inl (cI, 400, .inl (fun _ => 0))), (q7, .inl (cI, 400, .inl (fun _ => 0))), (q8, .inl (cI, 400, .inl (fun _ => 0))), (q9, .inl (cI, 400, .inl (fun _ => 0))), (q10, .inl (cI, 41, .inl (fun _ => 0)))] := hD
  refine va_putF (D := (dC, dI)) (ci := 2) (v := .ref q10) (ty := .array .int) (C := RM) (T := TM) (N := 18) hx hb hts hi_M tyM tyM_ok nmM hown hK hP hD hS 0 rfl rfl 15 (by decide) (hts _ fl_M_38) (fun _ h9 => h9) rfl hin rfl (by decide +kernel) rfl rfl (Nat.le_of_ble_eq_true rfl) dM_init_85 (fun H locs hP hD hS => ?_)
  have hP : va_P (dC, dI) gx_cl [(h, .inr (2, [.int 0, .int 0, .int 0, .ref q1, .ref q2, .ref q3, .ref q4, .ref q5, .ref q6, .int 0, .ref q7, .ref q8, .ref q9, .int 0, .int 0, .ref q10, .null, .null])), (q1, .inl (cI, 8, .inl (fun _ => 0))), (q2, .inl (cZ, 41, .inl (fun _ => 0))), (q3, .inl (cI, 41, .inl (fun _ => 0))), (q4, .inl (cI, 41, .inl (fun _ => 0))), (q5, .inl (cI, 41, .inl (fun _ => 0))), (q6, .inl (cI, 400, .inl (fun _ => 0))), (q7, .inl (cI, 400, .inl (fun _ => 0))), (q8, .inl (cI, 400, .inl (fun _ => 0))), (q9, .inl (cI, 400, .inl (fun _ => 0))), (q10, .inl (cI, 41, .inl (fun _ => 0)))] H := hP
  have hD : va_D A [(h, .inr (2, [.int 0, .int 0, .int 0, .ref q1, .ref q2, .ref q3, .ref q4, .ref q5, .ref q6, .int 0, .ref q7, .ref q8, .ref q9, .int 0, .int 0, .ref q10, .null, .null])), (q1, .inl (cI, 8, .inl (fun _ => 0))), (q2, .inl (cZ, 41, .inl (fun _ => 0))), (q3, .inl (cI, 41, .inl (fun _ => 0))), (q4, .inl (cI, 41, .inl (fun _ => 0))), (q5, .inl (cI, 41, .inl (fun _ => 0))), (q6, .inl (cI, 400, .inl (fun _ => 0))), (q7, .inl (cI, 400, .inl (fun _ => 0))), (q8, .inl (cI, 400, .inl (fun _ => 0))), (q9, .inl (cI, 400, .inl (fun _ => 0))), (q10, .inl (cI, 41, .inl (fun _ => 0)))] := hD
  refine lv_aload_n hx hb dM_init_88 rfl (lv_at hl 0 rfl) ?_
  refine lv_bipush (v := 41) hx hb dM_init_89 (by decide) ?_
  refine va_newa (atype := .int) (N' := 41) (a0 := (41, .inl (fun _ => 0))) (ty := .int) (n := 41) hx hb (hts _ ac_int) rfl hK hP hD hS hA (fun _ => rfl) (by decide) (by decide) (by decide) (by show 10 + 1 ≤ 12; omega) (by show 0 + 8 + 41 + 41 + 41 + 41 + 400 + 400 + 400 + 400 + 41 + 41 ≤ 2000; omega) dM_init_91 (fun q11 cA H hK1 hP hD hS => ?_)
  have ec := cA_eq (fun C h => by cases h) hK1 (t0 := 0) rfl
  rw [ec] at hP hD
  clear hK1
  have hP : va_P (dC, dI) gx_cl [(h, .inr (2, [.int 0, .int 0, .int 0, .ref q1, .ref q2, .ref q3, .ref q4, .ref q5, .ref q6, .int 0, .ref q7, .ref q8, .ref q9, .int 0, .int 0, .ref q10, .null, .null])), (q1, .inl (cI, 8, .inl (fun _ => 0))), (q2, .inl (cZ, 41, .inl (fun _ => 0))), (q3, .inl (cI, 41, .inl (fun _ => 0))), (q4, .inl (cI, 41, .inl (fun _ => 0))), (q5, .inl (cI, 41, .inl (fun _ => 0))), (q6, .inl (cI, 400, .inl (fun _ => 0))), (q7, .inl (cI, 400, .inl (fun _ => 0))), (q8, .inl (cI, 400, .inl (fun _ => 0))), (q9, .inl (cI, 400, .inl (fun _ => 0))), (q10, .inl (cI, 41, .inl (fun _ => 0))), (q11, .inl (cI, 41, .inl (fun _ => 0)))] H := hP
  have hD : va_D A [(h, .inr (2, [.int 0, .int 0, .int 0, .ref q1, .ref q2, .ref q3, .ref q4, .ref q5, .ref q6, .int 0, .ref q7, .ref q8, .ref q9, .int 0, .int 0, .ref q10, .null, .null])), (q1, .inl (cI, 8, .inl (fun _ => 0))), (q2, .inl (cZ, 41, .inl (fun _ => 0))), (q3, .inl (cI, 41, .inl (fun _ => 0))), (q4, .inl (cI, 41, .inl (fun _ => 0))), (q5, .inl (cI, 41, .inl (fun _ => 0))), (q6, .inl (cI, 400, .inl (fun _ => 0))), (q7, .inl (cI, 400, .inl (fun _ => 0))), (q8, .inl (cI, 400, .inl (fun _ => 0))), (q9, .inl (cI, 400, .inl (fun _ => 0))), (q10, .inl (cI, 41, .inl (fun _ => 0))), (q11, .inl (cI, 41, .inl (fun _ => 0)))] := hD
  refine va_putF (D := (dC, dI)) (ci := 2) (v := .ref q11) (ty := .array .int) (C := RM) (T := TM) (N := 18) hx hb hts hi_M tyM tyM_ok nmM hown hK hP hD hS 0 rfl rfl 16 (by decide) (hts _ fl_M_41) (fun _ h9 => h9) rfl hin rfl (by decide +kernel) rfl rfl (Nat.le_of_ble_eq_true rfl) dM_init_93 (fun H locs hP hD hS => ?_)
  have hP : va_P (dC, dI) gx_cl [(h, .inr (2, [.int 0, .int 0, .int 0, .ref q1, .ref q2, .ref q3, .ref q4, .ref q5, .ref q6, .int 0, .ref q7, .ref q8, .ref q9, .int 0, .int 0, .ref q10, .ref q11, .null])), (q1, .inl (cI, 8, .inl (fun _ => 0))), (q2, .inl (cZ, 41, .inl (fun _ => 0))), (q3, .inl (cI, 41, .inl (fun _ => 0))), (q4, .inl (cI, 41, .inl (fun _ => 0))), (q5, .inl (cI, 41, .inl (fun _ => 0))), (q6, .inl (cI, 400, .inl (fun _ => 0))), (q7, .inl (cI, 400, .inl (fun _ => 0))), (q8, .inl (cI, 400, .inl (fun _ => 0))), (q9, .inl (cI, 400, .inl (fun _ => 0))), (q10, .inl (cI, 41, .inl (fun _ => 0))), (q11, .inl (cI, 41, .inl (fun _ => 0)))] H := hP
  have hD : va_D A [(h, .inr (2, [.int 0, .int 0, .int 0, .ref q1, .ref q2, .ref q3, .ref q4, .ref q5, .ref q6, .int 0, .ref q7, .ref q8, .ref q9, .int 0, .int 0, .ref q10, .ref q11, .null])), (q1, .inl (cI, 8, .inl (fun _ => 0))), (q2, .inl (cZ, 41, .inl (fun _ => 0))), (q3, .inl (cI, 41, .inl (fun _ => 0))), (q4, .inl (cI, 41, .inl (fun _ => 0))), (q5, .inl (cI, 41, .inl (fun _ => 0))), (q6, .inl (cI, 400, .inl (fun _ => 0))), (q7, .inl (cI, 400, .inl (fun _ => 0))), (q8, .inl (cI, 400, .inl (fun _ => 0))), (q9, .inl (cI, 400, .inl (fun _ => 0))), (q10, .inl (cI, 41, .inl (fun _ => 0))), (q11, .inl (cI, 41, .inl (fun _ => 0)))] := hD
  refine lv_aload_n hx hb dM_init_96 rfl (lv_at hl 0 rfl) ?_
  refine lv_bipush (v := 41) hx hb dM_init_97 (by decide) ?_
  refine va_newa (atype := .boolean) (N' := 41) (a0 := (41, .inl (fun _ => 0))) (ty := .boolean) (n := 41) hx hb (hts _ ac_boolean) rfl hK hP hD hS hA (fun _ => rfl) (by decide) (by decide) (by decide) (by show 11 + 1 ≤ 12; omega) (by show 0 + 8 + 41 + 41 + 41 + 41 + 400 + 400 + 400 + 400 + 41 + 41 + 41 ≤ 2000; omega) dM_init_99 (fun q12 cA H hK1 hP hD hS => ?_)
  have ec := cA_eq (fun C h => by cases h) hK1 (t0 := 1) rfl
  rw [ec] at hP hD
  clear hK1
  have hP : va_P (dC, dI) gx_cl [(h, .inr (2, [.int 0, .int 0, .int 0, .ref q1, .ref q2, .ref q3, .ref q4, .ref q5, .ref q6, .int 0, .ref q7, .ref q8, .ref q9, .int 0, .int 0, .ref q10, .ref q11, .null])), (q1, .inl (cI, 8, .inl (fun _ => 0))), (q2, .inl (cZ, 41, .inl (fun _ => 0))), (q3, .inl (cI, 41, .inl (fun _ => 0))), (q4, .inl (cI, 41, .inl (fun _ => 0))), (q5, .inl (cI, 41, .inl (fun _ => 0))), (q6, .inl (cI, 400, .inl (fun _ => 0))), (q7, .inl (cI, 400, .inl (fun _ => 0))), (q8, .inl (cI, 400, .inl (fun _ => 0))), (q9, .inl (cI, 400, .inl (fun _ => 0))), (q10, .inl (cI, 41, .inl (fun _ => 0))), (q11, .inl (cI, 41, .inl (fun _ => 0))), (q12, .inl (cZ, 41, .inl (fun _ => 0)))] H := hP
  have hD : va_D A [(h, .inr (2, [.int 0, .int 0, .int 0, .ref q1, .ref q2, .ref q3, .ref q4, .ref q5, .ref q6, .int 0, .ref q7, .ref q8, .ref q9, .int 0, .int 0, .ref q10, .ref q11, .null])), (q1, .inl (cI, 8, .inl (fun _ => 0))), (q2, .inl (cZ, 41, .inl (fun _ => 0))), (q3, .inl (cI, 41, .inl (fun _ => 0))), (q4, .inl (cI, 41, .inl (fun _ => 0))), (q5, .inl (cI, 41, .inl (fun _ => 0))), (q6, .inl (cI, 400, .inl (fun _ => 0))), (q7, .inl (cI, 400, .inl (fun _ => 0))), (q8, .inl (cI, 400, .inl (fun _ => 0))), (q9, .inl (cI, 400, .inl (fun _ => 0))), (q10, .inl (cI, 41, .inl (fun _ => 0))), (q11, .inl (cI, 41, .inl (fun _ => 0))), (q12, .inl (cZ, 41, .inl (fun _ => 0)))] := hD
  refine va_putF (D := (dC, dI)) (ci := 2) (v := .ref q12) (ty := .array .boolean) (C := RM) (T := TM) (N := 18) hx hb hts hi_M tyM tyM_ok nmM hown hK hP hD hS 0 rfl rfl 17 (by decide) (hts _ fl_M_44) (fun _ h9 => h9) rfl hin rfl (by decide +kernel) rfl rfl (Nat.le_of_ble_eq_true rfl) dM_init_101 (fun H locs hP hD hS => ?_)
  have hP : va_P (dC, dI) gx_cl [(h, .inr (2, [.int 0, .int 0, .int 0, .ref q1, .ref q2, .ref q3, .ref q4, .ref q5, .ref q6, .int 0, .ref q7, .ref q8, .ref q9, .int 0, .int 0, .ref q10, .ref q11, .ref q12])), (q1, .inl (cI, 8, .inl (fun _ => 0))), (q2, .inl (cZ, 41, .inl (fun _ => 0))), (q3, .inl (cI, 41, .inl (fun _ => 0))), (q4, .inl (cI, 41, .inl (fun _ => 0))), (q5, .inl (cI, 41, .inl (fun _ => 0))), (q6, .inl (cI, 400, .inl (fun _ => 0))), (q7, .inl (cI, 400, .inl (fun _ => 0))), (q8, .inl (cI, 400, .inl (fun _ => 0))), (q9, .inl (cI, 400, .inl (fun _ => 0))), (q10, .inl (cI, 41, .inl (fun _ => 0))), (q11, .inl (cI, 41, .inl (fun _ => 0))), (q12, .inl (cZ, 41, .inl (fun _ => 0)))] H := hP
  have hD : va_D A [(h, .inr (2, [.int 0, .int 0, .int 0, .ref q1, .ref q2, .ref q3, .ref q4, .ref q5, .ref q6, .int 0, .ref q7, .ref q8, .ref q9, .int 0, .int 0, .ref q10, .ref q11, .ref q12])), (q1, .inl (cI, 8, .inl (fun _ => 0))), (q2, .inl (cZ, 41, .inl (fun _ => 0))), (q3, .inl (cI, 41, .inl (fun _ => 0))), (q4, .inl (cI, 41, .inl (fun _ => 0))), (q5, .inl (cI, 41, .inl (fun _ => 0))), (q6, .inl (cI, 400, .inl (fun _ => 0))), (q7, .inl (cI, 400, .inl (fun _ => 0))), (q8, .inl (cI, 400, .inl (fun _ => 0))), (q9, .inl (cI, 400, .inl (fun _ => 0))), (q10, .inl (cI, 41, .inl (fun _ => 0))), (q11, .inl (cI, 41, .inl (fun _ => 0))), (q12, .inl (cZ, 41, .inl (fun _ => 0)))] := hD
  refine lv_aload_n hx hb dM_init_104 rfl (lv_at hl 0 rfl) ?_
  refine lv_iload_n hx hb dM_init_105 rfl (lv_at hl 1 rfl) ?_
  refine lv_bipush (v := 16) hx hb dM_init_106 (by decide) ?_
  refine lv_icmp_ge hx hb dM_init_108 (tgt := 116) rfl (fun hc108 => ?_) (fun hc108 => ?_)
  · skip
    refine lv_iload_n hx hb dM_init_116 rfl (lv_at hl 1 rfl) ?_
    refine lv_sipush (v := 400) hx hb dM_init_117 (by decide) ?_
    refine lv_icmp_le hx hb dM_init_120 (tgt := 129) rfl (fun hc120 => ?_) (fun hc120 => ?_)
    · skip
      refine lv_iload_n hx hb dM_init_129 rfl (lv_at hl 1 rfl) ?_
      refine lv_topi (fun w ew => ?_)
      have ew : w = nI Wn := ew.trans ((cx_3 (lo := 16) (hi := 400) (L := 16) (H := 400) (by decide) (by decide) (by decide) hc108 hc120).trans (by rw [hW]))
      subst ew
      refine va_putF (D := (dC, dI)) (ci := 2) (v := .int (nI Wn)) (ty := .int) (C := RM) (T := TM) (N := 18) hx hb hts hi_M tyM tyM_ok nmM hown hK hP hD hS 0 rfl rfl 1 (by decide) (hts _ fl_M_47) (fun _ h9 => h9) rfl hin rfl (by decide +kernel) rfl rfl (Nat.le_of_ble_eq_true rfl) dM_init_130 (fun H locs hP hD hS => ?_)
      have hP : va_P (dC, dI) gx_cl [(h, .inr (2, [.int 0, .int (nI Wn), .int 0, .ref q1, .ref q2, .ref q3, .ref q4, .ref q5, .ref q6, .int 0, .ref q7, .ref q8, .ref q9, .int 0, .int 0, .ref q10, .ref q11, .ref q12])), (q1, .inl (cI, 8, .inl (fun _ => 0))), (q2, .inl (cZ, 41, .inl (fun _ => 0))), (q3, .inl (cI, 41, .inl (fun _ => 0))), (q4, .inl (cI, 41, .inl (fun _ => 0))), (q5, .inl (cI, 41, .inl (fun _ => 0))), (q6, .inl (cI, 400, .inl (fun _ => 0))), (q7, .inl (cI, 400, .inl (fun _ => 0))), (q8, .inl (cI, 400, .inl (fun _ => 0))), (q9, .inl (cI, 400, .inl (fun _ => 0))), (q10, .inl (cI, 41, .inl (fun _ => 0))), (q11, .inl (cI, 41, .inl (fun _ => 0))), (q12, .inl (cZ, 41, .inl (fun _ => 0)))] H := hP
      have hD : va_D A [(h, .inr (2, [.int 0, .int (nI Wn), .int 0, .ref q1, .ref q2, .ref q3, .ref q4, .ref q5, .ref q6, .int 0, .ref q7, .ref q8, .ref q9, .int 0, .int 0, .ref q10, .ref q11, .ref q12])), (q1, .inl (cI, 8, .inl (fun _ => 0))), (q2, .inl (cZ, 41, .inl (fun _ => 0))), (q3, .inl (cI, 41, .inl (fun _ => 0))), (q4, .inl (cI, 41, .inl (fun _ => 0))), (q5, .inl (cI, 41, .inl (fun _ => 0))), (q6, .inl (cI, 400, .inl (fun _ => 0))), (q7, .inl (cI, 400, .inl (fun _ => 0))), (q8, .inl (cI, 400, .inl (fun _ => 0))), (q9, .inl (cI, 400, .inl (fun _ => 0))), (q10, .inl (cI, 41, .inl (fun _ => 0))), (q11, .inl (cI, 41, .inl (fun _ => 0))), (q12, .inl (cZ, 41, .inl (fun _ => 0)))] := hD
      refine lv_aload_n hx hb dM_init_133 rfl (lv_at hl 0 rfl) ?_
      refine lv_iload_n hx hb dM_init_134 rfl (lv_at hl 2 rfl) ?_
      refine lv_iconst (v := 2) hx hb dM_init_135 (by decide) ?_
      refine lv_icmp_ge hx hb dM_init_136 (tgt := 143) rfl (fun hc136 => ?_) (fun hc136 => ?_)
      · skip
        refine lv_iload_n hx hb dM_init_143 rfl (lv_at hl 2 rfl) ?_
        refine lv_bipush (v := 40) hx hb dM_init_144 (by decide) ?_
        refine lv_icmp_le hx hb dM_init_146 (tgt := 154) rfl (fun hc146 => ?_) (fun hc146 => ?_)
        · skip
          refine lv_iload_n hx hb dM_init_154 rfl (lv_at hl 2 rfl) ?_
          refine lv_topi (fun w ew => ?_)
          have ew : w = nI En := ew.trans ((cx_3 (lo := 2) (hi := 40) (L := 2) (H := 40) (by decide) (by decide) (by decide) hc136 hc146).trans (by rw [hE]))
          subst ew
          refine va_putF (D := (dC, dI)) (ci := 2) (v := .int (nI En)) (ty := .int) (C := RM) (T := TM) (N := 18) hx hb hts hi_M tyM tyM_ok nmM hown hK hP hD hS 0 rfl rfl 2 (by decide) (hts _ fl_M_51) (fun _ h9 => h9) rfl hin rfl (by decide +kernel) rfl rfl (Nat.le_of_ble_eq_true rfl) dM_init_155 (fun H locs hP hD hS => ?_)
          have hP : va_P (dC, dI) gx_cl [(h, .inr (2, [.int 0, .int (nI Wn), .int (nI En), .ref q1, .ref q2, .ref q3, .ref q4, .ref q5, .ref q6, .int 0, .ref q7, .ref q8, .ref q9, .int 0, .int 0, .ref q10, .ref q11, .ref q12])), (q1, .inl (cI, 8, .inl (fun _ => 0))), (q2, .inl (cZ, 41, .inl (fun _ => 0))), (q3, .inl (cI, 41, .inl (fun _ => 0))), (q4, .inl (cI, 41, .inl (fun _ => 0))), (q5, .inl (cI, 41, .inl (fun _ => 0))), (q6, .inl (cI, 400, .inl (fun _ => 0))), (q7, .inl (cI, 400, .inl (fun _ => 0))), (q8, .inl (cI, 400, .inl (fun _ => 0))), (q9, .inl (cI, 400, .inl (fun _ => 0))), (q10, .inl (cI, 41, .inl (fun _ => 0))), (q11, .inl (cI, 41, .inl (fun _ => 0))), (q12, .inl (cZ, 41, .inl (fun _ => 0)))] H := hP
          have hD : va_D A [(h, .inr (2, [.int 0, .int (nI Wn), .int (nI En), .ref q1, .ref q2, .ref q3, .ref q4, .ref q5, .ref q6, .int 0, .ref q7, .ref q8, .ref q9, .int 0, .int 0, .ref q10, .ref q11, .ref q12])), (q1, .inl (cI, 8, .inl (fun _ => 0))), (q2, .inl (cZ, 41, .inl (fun _ => 0))), (q3, .inl (cI, 41, .inl (fun _ => 0))), (q4, .inl (cI, 41, .inl (fun _ => 0))), (q5, .inl (cI, 41, .inl (fun _ => 0))), (q6, .inl (cI, 400, .inl (fun _ => 0))), (q7, .inl (cI, 400, .inl (fun _ => 0))), (q8, .inl (cI, 400, .inl (fun _ => 0))), (q9, .inl (cI, 400, .inl (fun _ => 0))), (q10, .inl (cI, 41, .inl (fun _ => 0))), (q11, .inl (cI, 41, .inl (fun _ => 0))), (q12, .inl (cZ, 41, .inl (fun _ => 0)))] := hD
          have C : GC p s m _ c cM_init 3 RM wsA (dC, dI) gx_cl [(cI, .int), (cZ, .boolean)] A := ⟨⟨hx, hb, hml, hown, hts⟩, hK, hA, wsA_good⟩
          obtain ⟨o, ho⟩ : ∃ o : Nat → Nat, o = fun k => [h, q1, q2, q3, q4, q5, q6, q7, q8, q9, q10, q11, q12].getD k 0 := ⟨_, rfl⟩
          have hP2 : va_P (dC, dI) gx_cl (mw cI cZ o (m0 Wn En)) H := by rw [ho]; exact hP
          have hD2 : va_D A (mw cI cZ o (m0 Wn En)) := by rw [ho]; exact hD
          have h0 : h = o 0 := by rw [ho]; rfl
          have hl : lv_has ls 3 [(0, .ref (o 0))] := by rw [← h0]; exact lv_sub hl [0] rfl
          refine (?_ : GW (12) (0 + 8 + 41 + 41 + 41 + 41 + 400 + 400 + 400 + 400 + 41 + 41 + 41) p l e _ s m _ below meth c _ 3 (dC, dI) gx_cl A (mw cI cZ o) (m0 Wn En) 158 [(0, .ref (o 0))] []) H locs ls hl hP2 hD2 hS
          refine gx_aload_n C dM_init_158 0 rfl rfl ?_
          refine gx_iconst (v := 0) C dM_init_159 (by decide) ?_
          refine gx_aload_n C dM_init_160 0 rfl rfl ?_
          refine gx_get C mo_this hi_M 1 (by decide) fl_M_47 rfl dM_init_161 ?_
          refine gx_callv (As := [.int 0, .int (nI Wn)]) (rest := []) C (mt_M_give l dC dI cI cZ o _ _ _ _ hpo) (gx_cwV C 2 ln_M_54 im_M_give se_M_give in_CountedObjectsModel cd_M_give rfl rfl (by decide +kernel) ⟨Nat.le_of_ble_eq_true rfl, Nat.le_of_ble_eq_true rfl⟩) mo_this rfl (Nat.le_of_ble_eq_true rfl) dM_init_164 (fun S1 => mw_ad _ S1) rfl (fun S1 hs => ?_) ⟨by show 12 ≤ 12; omega, by show 0 + 8 + 41 + 41 + 41 + 41 + 400 + 400 + 400 + 400 + 41 + 41 + 41 ≤ 2000; omega⟩
          intro H locs ls h1 h2 h3 h4
          refine W.widen (k := 12) (n := 2000) (by omega) (by omega) ?_
          exact W.vret hx hb hr (fun t ht hW => ⟨⟨(o, S1), rfl, ⟨h0.symm, hs⟩, by rw [ht]; exact h2, va_K.moved hW.alike hK, h3⟩, h4.F ht⟩) h4.2.2 dM_init_167
        · skip
          refine lv_bipush (v := 40) hx hb dM_init_149 (by decide) ?_
          refine lv_goto hx hb dM_init_151 (tgt := 155) rfl ?_
          refine lv_topi (fun w ew => ?_)
          have ew : w = nI En := ew.trans ((cx_2 (lo := 2) (hi := 40) (L := 2) (H := 40) (by decide) (by decide) (by decide) hc136 hc146).trans (by rw [hE]))
          subst ew
          refine va_putF (D := (dC, dI)) (ci := 2) (v := .int (nI En)) (ty := .int) (C := RM) (T := TM) (N := 18) hx hb hts hi_M tyM tyM_ok nmM hown hK hP hD hS 0 rfl rfl 2 (by decide) (hts _ fl_M_51) (fun _ h9 => h9) rfl hin rfl (by decide +kernel) rfl rfl (Nat.le_of_ble_eq_true rfl) dM_init_155 (fun H locs hP hD hS => ?_)
          have hP : va_P (dC, dI) gx_cl [(h, .inr (2, [.int 0, .int (nI Wn), .int (nI En), .ref q1, .ref q2, .ref q3, .ref q4, .ref q5, .ref q6, .int 0, .ref q7, .ref q8, .ref q9, .int 0, .int 0, .ref q10, .ref q11, .ref q12])), (q1, .inl (cI, 8, .inl (fun _ => 0))), (q2, .inl (cZ, 41, .inl (fun _ => 0))), (q3, .inl (cI, 41, .inl (fun _ => 0))), (q4, .inl (cI, 41, .inl (fun _ => 0))), (q5, .inl (cI, 41, .inl (fun _ => 0))), (q6, .inl (cI, 400, .inl (fun _ => 0))), (q7, .inl (cI, 400, .inl (fun _ => 0))), (q8, .inl (cI, 400, .inl (fun _ => 0))), (q9, .inl (cI, 400, .inl (fun _ => 0))), (q10, .inl (cI, 41, .inl (fun _ => 0))), (q11, .inl (cI, 41, .inl (fun _ => 0))), (q12, .inl (cZ, 41, .inl (fun _ => 0)))] H := hP
          have hD : va_D A [(h, .inr (2, [.int 0, .int (nI Wn), .int (nI En), .ref q1, .ref q2, .ref q3, .ref q4, .ref q5, .ref q6, .int 0, .ref q7, .ref q8, .ref q9, .int 0, .int 0, .ref q10, .ref q11, .ref q12])), (q1, .inl (cI, 8, .inl (fun _ => 0))), (q2, .inl (cZ, 41, .inl (fun _ => 0))), (q3, .inl (cI, 41, .inl (fun _ => 0))), (q4, .inl (cI, 41, .inl (fun _ => 0))), (q5, .inl (cI, 41, .inl (fun _ => 0))), (q6, .inl (cI, 400, .inl (fun _ => 0))), (q7, .inl (cI, 400, .inl (fun _ => 0))), (q8, .inl (cI, 400, .inl (fun _ => 0))), (q9, .inl (cI, 400, .inl (fun _ => 0))), (q10, .inl (cI, 41, .inl (fun _ => 0))), (q11, .inl (cI, 41, .inl (fun _ => 0))), (q12, .inl (cZ, 41, .inl (fun _ => 0)))] := hD
          have C : GC p s m _ c cM_init 3 RM wsA (dC, dI) gx_cl [(cI, .int), (cZ, .boolean)] A := ⟨⟨hx, hb, hml, hown, hts⟩, hK, hA, wsA_good⟩
          obtain ⟨o, ho⟩ : ∃ o : Nat → Nat, o = fun k => [h, q1, q2, q3, q4, q5, q6, q7, q8, q9, q10, q11, q12].getD k 0 := ⟨_, rfl⟩
          have hP2 : va_P (dC, dI) gx_cl (mw cI cZ o (m0 Wn En)) H := by rw [ho]; exact hP
          have hD2 : va_D A (mw cI cZ o (m0 Wn En)) := by rw [ho]; exact hD
          have h0 : h = o 0 := by rw [ho]; rfl
          have hl : lv_has ls 3 [(0, .ref (o 0))] := by rw [← h0]; exact lv_sub hl [0] rfl
          refine (?_ : GW (12) (0 + 8 + 41 + 41 + 41 + 41 + 400 + 400 + 400 + 400 + 41 + 41 + 41) p l e _ s m _ below meth c _ 3 (dC, dI) gx_cl A (mw cI cZ o) (m0 Wn En) 158 [(0, .ref (o 0))] []) H locs ls hl hP2 hD2 hS
          refine gx_aload_n C dM_init_158 0 rfl rfl ?_
          refine gx_iconst (v := 0) C dM_init_159 (by decide) ?_
          refine gx_aload_n C dM_init_160 0 rfl rfl ?_
          refine gx_get C mo_this hi_M 1 (by decide) fl_M_47 rfl dM_init_161 ?_
          refine gx_callv (As := [.int 0, .int (nI Wn)]) (rest := []) C (mt_M_give l dC dI cI cZ o _ _ _ _ hpo) (gx_cwV C 2 ln_M_54 im_M_give se_M_give in_CountedObjectsModel cd_M_give rfl rfl (by decide +kernel) ⟨Nat.le_of_ble_eq_true rfl, Nat.le_of_ble_eq_true rfl⟩) mo_this rfl (Nat.le_of_ble_eq_true rfl) dM_init_164 (fun S1 => mw_ad _ S1) rfl (fun S1 hs => ?_) ⟨by show 12 ≤ 12; omega, by show 0 + 8 + 41 + 41 + 41 + 41 + 400 + 400 + 400 + 400 + 41 + 41 + 41 ≤ 2000; omega⟩
          intro H locs ls h1 h2 h3 h4
          refine W.widen (k := 12) (n := 2000) (by omega) (by omega) ?_
          exact W.vret hx hb hr (fun t ht hW => ⟨⟨(o, S1), rfl, ⟨h0.symm, hs⟩, by rw [ht]; exact h2, va_K.moved hW.alike hK, h3⟩, h4.F ht⟩) h4.2.2 dM_init_167
      · skip
        refine lv_iconst (v := 2) hx hb dM_init_139 (by decide) ?_
        refine lv_goto hx hb dM_init_140 (tgt := 155) rfl ?_
        refine lv_topi (fun w ew => ?_)
        have ew : w = nI En := ew.trans ((cx_1 (lo := 2) (hi := 40) (L := 2) (by decide) (by decide) hc136).trans (by rw [hE]))
        subst ew
        refine va_putF (D := (dC, dI)) (ci := 2) (v := .int (nI En)) (ty := .int) (C := RM) (T := TM) (N := 18) hx hb hts hi_M tyM tyM_ok nmM hown hK hP hD hS 0 rfl rfl 2 (by decide) (hts _ fl_M_51) (fun _ h9 => h9) rfl hin rfl (by decide +kernel) rfl rfl (Nat.le_of_ble_eq_true rfl) dM_init_155 (fun H locs hP hD hS => ?_)
        have hP : va_P (dC, dI) gx_cl [(h, .inr (2, [.int 0, .int (nI Wn), .int (nI En), .ref q1, .ref q2, .ref q3, .ref q4, .ref q5, .ref q6, .int 0, .ref q7, .ref q8, .ref q9, .int 0, .int 0, .ref q10, .ref q11, .ref q12])), (q1, .inl (cI, 8, .inl (fun _ => 0))), (q2, .inl (cZ, 41, .inl (fun _ => 0))), (q3, .inl (cI, 41, .inl (fun _ => 0))), (q4, .inl (cI, 41, .inl (fun _ => 0))), (q5, .inl (cI, 41, .inl (fun _ => 0))), (q6, .inl (cI, 400, .inl (fun _ => 0))), (q7, .inl (cI, 400, .inl (fun _ => 0))), (q8, .inl (cI, 400, .inl (fun _ => 0))), (q9, .inl (cI, 400, .inl (fun _ => 0))), (q10, .inl (cI, 41, .inl (fun _ => 0))), (q11, .inl (cI, 41, .inl (fun _ => 0))), (q12, .inl (cZ, 41, .inl (fun _ => 0)))] H := hP
        have hD : va_D A [(h, .inr (2, [.int 0, .int (nI Wn), .int (nI En), .ref q1, .ref q2, .ref q3, .ref q4, .ref q5, .ref q6, .int 0, .ref q7, .ref q8, .ref q9, .int 0, .int 0, .ref q10, .ref q11, .ref q12])), (q1, .inl (cI, 8, .inl (fun _ => 0))), (q2, .inl (cZ, 41, .inl (fun _ => 0))), (q3, .inl (cI, 41, .inl (fun _ => 0))), (q4, .inl (cI, 41, .inl (fun _ => 0))), (q5, .inl (cI, 41, .inl (fun _ => 0))), (q6, .inl (cI, 400, .inl (fun _ => 0))), (q7, .inl (cI, 400, .inl (fun _ => 0))), (q8, .inl (cI, 400, .inl (fun _ => 0))), (q9, .inl (cI, 400, .inl (fun _ => 0))), (q10, .inl (cI, 41, .inl (fun _ => 0))), (q11, .inl (cI, 41, .inl (fun _ => 0))), (q12, .inl (cZ, 41, .inl (fun _ => 0)))] := hD
        have C : GC p s m _ c cM_init 3 RM wsA (dC, dI) gx_cl [(cI, .int), (cZ, .boolean)] A := ⟨⟨hx, hb, hml, hown, hts⟩, hK, hA, wsA_good⟩
        obtain ⟨o, ho⟩ : ∃ o : Nat → Nat, o = fun k => [h, q1, q2, q3, q4, q5, q6, q7, q8, q9, q10, q11, q12].getD k 0 := ⟨_, rfl⟩
        have hP2 : va_P (dC, dI) gx_cl (mw cI cZ o (m0 Wn En)) H := by rw [ho]; exact hP
        have hD2 : va_D A (mw cI cZ o (m0 Wn En)) := by rw [ho]; exact hD
        have h0 : h = o 0 := by rw [ho]; rfl
        have hl : lv_has ls 3 [(0, .ref (o 0))] := by rw [← h0]; exact lv_sub hl [0] rfl
        refine (?_ : GW (12) (0 + 8 + 41 + 41 + 41 + 41 + 400 + 400 + 400 + 400 + 41 + 41 + 41) p l e _ s m _ below meth c _ 3 (dC, dI) gx_cl A (mw cI cZ o) (m0 Wn En) 158 [(0, .ref (o 0))] []) H locs ls hl hP2 hD2 hS
        refine gx_aload_n C dM_init_158 0 rfl rfl ?_
        refine gx_iconst (v := 0) C dM_init_159 (by decide) ?_
        refine gx_aload_n C dM_init_160 0 rfl rfl ?_
        refine gx_get C mo_this hi_M 1 (by decide) fl_M_47 rfl dM_init_161 ?_
        refine gx_callv (As := [.int 0, .int (nI Wn)]) (rest := []) C (mt_M_give l dC dI cI cZ o _ _ _ _ hpo) (gx_cwV C 2 ln_M_54 im_M_give se_M_give in_CountedObjectsModel cd_M_give rfl rfl (by decide +kernel) ⟨Nat.le_of_ble_eq_true rfl, Nat.le_of_ble_eq_true rfl⟩) mo_this rfl (Nat.le_of_ble_eq_true rfl) dM_init_164 (fun S1 => mw_ad _ S1) rfl (fun S1 hs => ?_) ⟨by show 12 ≤ 12; omega, by show 0 + 8 + 41 + 41 + 41 + 41 + 400 + 400 + 400 + 400 + 41 + 41 + 41 ≤ 2000; omega⟩
        intro H locs ls h1 h2 h3 h4
        refine W.widen (k := 12) (n := 2000) (by omega) (by omega) ?_
        exact W.vret hx hb hr (fun t ht hW => ⟨⟨(o, S1), rfl, ⟨h0.symm, hs⟩, by rw [ht]; exact h2, va_K.moved hW.alike hK, h3⟩, h4.F ht⟩) h4.2.2 dM_init_167
    · skip
      refine lv_sipush (v := 400) hx hb dM_init_123 (by decide) ?_
      refine lv_goto hx hb dM_init_126 (tgt := 130) rfl ?_
      refine lv_topi (fun w ew => ?_)
      have ew : w = nI Wn := ew.trans ((cx_2 (lo := 16) (hi := 400) (L := 16) (H := 400) (by decide) (by decide) (by decide) hc108 hc120).trans (by rw [hW]))
      subst ew
      refine va_putF (D := (dC, dI)) (ci := 2) (v := .int (nI Wn)) (ty := .int) (C := RM) (T := TM) (N := 18) hx hb hts hi_M tyM tyM_ok nmM hown hK hP hD hS 0 rfl rfl 1 (by decide) (hts _ fl_M_47) (fun _ h9 => h9) rfl hin rfl (by decide +kernel) rfl rfl (Nat.le_of_ble_eq_true rfl) dM_init_130 (fun H locs hP hD hS => ?_)
      have hP : va_P (dC, dI) gx_cl [(h, .inr (2, [.int 0, .int (nI Wn), .int 0, .ref q1, .ref q2, .ref q3, .ref q4, .ref q5, .ref q6, .int 0, .ref q7, .ref q8, .ref q9, .int 0, .int 0, .ref q10, .ref q11, .ref q12])), (q1, .inl (cI, 8, .inl (fun _ => 0))), (q2, .inl (cZ, 41, .inl (fun _ => 0))), (q3, .inl (cI, 41, .inl (fun _ => 0))), (q4, .inl (cI, 41, .inl (fun _ => 0))), (q5, .inl (cI, 41, .inl (fun _ => 0))), (q6, .inl (cI, 400, .inl (fun _ => 0))), (q7, .inl (cI, 400, .inl (fun _ => 0))), (q8, .inl (cI, 400, .inl (fun _ => 0))), (q9, .inl (cI, 400, .inl (fun _ => 0))), (q10, .inl (cI, 41, .inl (fun _ => 0))), (q11, .inl (cI, 41, .inl (fun _ => 0))), (q12, .inl (cZ, 41, .inl (fun _ => 0)))] H := hP
      have hD : va_D A [(h, .inr (2, [.int 0, .int (nI Wn), .int 0, .ref q1, .ref q2, .ref q3, .ref q4, .ref q5, .ref q6, .int 0, .ref q7, .ref q8, .ref q9, .int 0, .int 0, .ref q10, .ref q11, .ref q12])), (q1, .inl (cI, 8, .inl (fun _ => 0))), (q2, .inl (cZ, 41, .inl (fun _ => 0))), (q3, .inl (cI, 41, .inl (fun _ => 0))), (q4, .inl (cI, 41, .inl (fun _ => 0))), (q5, .inl (cI, 41, .inl (fun _ => 0))), (q6, .inl (cI, 400, .inl (fun _ => 0))), (q7, .inl (cI, 400, .inl (fun _ => 0))), (q8, .inl (cI, 400, .inl (fun _ => 0))), (q9, .inl (cI, 400, .inl (fun _ => 0))), (q10, .inl (cI, 41, .inl (fun _ => 0))), (q11, .inl (cI, 41, .inl (fun _ => 0))), (q12, .inl (cZ, 41, .inl (fun _ => 0)))] := hD
      refine lv_aload_n hx hb dM_init_133 rfl (lv_at hl 0 rfl) ?_
      refine lv_iload_n hx hb dM_init_134 rfl (lv_at hl 2 rfl) ?_
      refine lv_iconst (v := 2) hx hb dM_init_135 (by decide) ?_
      refine lv_icmp_ge hx hb dM_init_136 (tgt := 143) rfl (fun hc136 => ?_) (fun hc136 => ?_)
      · skip
        refine lv_iload_n hx hb dM_init_143 rfl (lv_at hl 2 rfl) ?_
        refine lv_bipush (v := 40) hx hb dM_init_144 (by decide) ?_
        refine lv_icmp_le hx hb dM_init_146 (tgt := 154) rfl (fun hc146 => ?_) (fun hc146 => ?_)
        · skip
          refine lv_iload_n hx hb dM_init_154 rfl (lv_at hl 2 rfl) ?_
          refine lv_topi (fun w ew => ?_)
          have ew : w = nI En := ew.trans ((cx_3 (lo := 2) (hi := 40) (L := 2) (H := 40) (by decide) (by decide) (by decide) hc136 hc146).trans (by rw [hE]))
          subst ew
          refine va_putF (D := (dC, dI)) (ci := 2) (v := .int (nI En)) (ty := .int) (C := RM) (T := TM) (N := 18) hx hb hts hi_M tyM tyM_ok nmM hown hK hP hD hS 0 rfl rfl 2 (by decide) (hts _ fl_M_51) (fun _ h9 => h9) rfl hin rfl (by decide +kernel) rfl rfl (Nat.le_of_ble_eq_true rfl) dM_init_155 (fun H locs hP hD hS => ?_)
          have hP : va_P (dC, dI) gx_cl [(h, .inr (2, [.int 0, .int (nI Wn), .int (nI En), .ref q1, .ref q2, .ref q3, .ref q4, .ref q5, .ref q6, .int 0, .ref q7, .ref q8, .ref q9, .int 0, .int 0, .ref q10, .ref q11, .ref q12])), (q1, .inl (cI, 8, .inl (fun _ => 0))), (q2, .inl (cZ, 41, .inl (fun _ => 0))), (q3, .inl (cI, 41, .inl (fun _ => 0))), (q4, .inl (cI, 41, .inl (fun _ => 0))), (q5, .inl (cI, 41, .inl (fun _ => 0))), (q6, .inl (cI, 400, .inl (fun _ => 0))), (q7, .inl (cI, 400, .inl (fun _ => 0))), (q8, .inl (cI, 400, .inl (fun _ => 0))), (q9, .inl (cI, 400, .inl (fun _ => 0))), (q10, .inl (cI, 41, .inl (fun _ => 0))), (q11, .inl (cI, 41, .inl (fun _ => 0))), (q12, .inl (cZ, 41, .inl (fun _ => 0)))] H := hP
          have hD : va_D A [(h, .inr (2, [.int 0, .int (nI Wn), .int (nI En), .ref q1, .ref q2, .ref q3, .ref q4, .ref q5, .ref q6, .int 0, .ref q7, .ref q8, .ref q9, .int 0, .int 0, .ref q10, .ref q11, .ref q12])), (q1, .inl (cI, 8, .inl (fun _ => 0))), (q2, .inl (cZ, 41, .inl (fun _ => 0))), (q3, .inl (cI, 41, .inl (fun _ => 0))), (q4, .inl (cI, 41, .inl (fun _ => 0))), (q5, .inl (cI, 41, .inl (fun _ => 0))), (q6, .inl (cI, 400, .inl (fun _ => 0))), (q7, .inl (cI, 400, .inl (fun _ => 0))), (q8, .inl (cI, 400, .inl (fun _ => 0))), (q9, .inl (cI, 400, .inl (fun _ => 0))), (q10, .inl (cI, 41, .inl (fun _ => 0))), (q11, .inl (cI, 41, .inl (fun _ => 0))), (q12, .inl (cZ, 41, .inl (fun _ => 0)))] := hD
          have C : GC p s m _ c cM_init 3 RM wsA (dC, dI) gx_cl [(cI, .int), (cZ, .boolean)] A := ⟨⟨hx, hb, hml, hown, hts⟩, hK, hA, wsA_good⟩
          obtain ⟨o, ho⟩ : ∃ o : Nat → Nat, o = fun k => [h, q1, q2, q3, q4, q5, q6, q7, q8, q9, q10, q11, q12].getD k 0 := ⟨_, rfl⟩
          have hP2 : va_P (dC, dI) gx_cl (mw cI cZ o (m0 Wn En)) H := by rw [ho]; exact hP
          have hD2 : va_D A (mw cI cZ o (m0 Wn En)) := by rw [ho]; exact hD
          have h0 : h = o 0 := by rw [ho]; rfl
          have hl : lv_has ls 3 [(0, .ref (o 0))] := by rw [← h0]; exact lv_sub hl [0] rfl
          refine (?_ : GW (12) (0 + 8 + 41 + 41 + 41 + 41 + 400 + 400 + 400 + 400 + 41 + 41 + 41) p l e _ s m _ below meth c _ 3 (dC, dI) gx_cl A (mw cI cZ o) (m0 Wn En) 158 [(0, .ref (o 0))] []) H locs ls hl hP2 hD2 hS
          refine gx_aload_n C dM_init_158 0 rfl rfl ?_
          refine gx_iconst (v := 0) C dM_init_159 (by decide) ?_
          refine gx_aload_n C dM_init_160 0 rfl rfl ?_
          refine gx_get C mo_this hi_M 1 (by decide) fl_M_47 rfl dM_init_161 ?_
          refine gx_callv (As := [.int 0, .int (nI Wn)]) (rest := []) C (mt_M_give l dC dI cI cZ o _ _ _ _ hpo) (gx_cwV C 2 ln_M_54 im_M_give se_M_give in_CountedObjectsModel cd_M_give rfl rfl (by decide +kernel) ⟨Nat.le_of_ble_eq_true rfl, Nat.le_of_ble_eq_true rfl⟩) mo_this rfl (Nat.le_of_ble_eq_true rfl) dM_init_164 (fun S1 => mw_ad _ S1) rfl (fun S1 hs => ?_) ⟨by show 12 ≤ 12; omega, by show 0 + 8 + 41 + 41 + 41 + 41 + 400 + 400 + 400 + 400 + 41 + 41 + 41 ≤ 2000; omega⟩
          intro H locs ls h1 h2 h3 h4
          refine W.widen (k := 12) (n := 2000) (by omega) (by omega) ?_
          exact W.vret hx hb hr (fun t ht hW => ⟨⟨(o, S1), rfl, ⟨h0.symm, hs⟩, by rw [ht]; exact h2, va_K.moved hW.alike hK, h3⟩, h4.F ht⟩) h4.2.2 dM_init_167
        · skip
          refine lv_bipush (v := 40) hx hb dM_init_149 (by decide) ?_
          refine lv_goto hx hb dM_init_151 (tgt := 155) rfl ?_
          refine lv_topi (fun w ew => ?_)
          have ew : w = nI En := ew.trans ((cx_2 (lo := 2) (hi := 40) (L := 2) (H := 40) (by decide) (by decide) (by decide) hc136 hc146).trans (by rw [hE]))
          subst ew
          refine va_putF (D := (dC, dI)) (ci := 2) (v := .int (nI En)) (ty := .int) (C := RM) (T := TM) (N := 18) hx hb hts hi_M tyM tyM_ok nmM hown hK hP hD hS 0 rfl rfl 2 (by decide) (hts _ fl_M_51) (fun _ h9 => h9) rfl hin rfl (by decide +kernel) rfl rfl (Nat.le_of_ble_eq_true rfl) dM_init_155 (fun H locs hP hD hS => ?_)
          have hP : va_P (dC, dI) gx_cl [(h, .inr (2, [.int 0, .int (nI Wn), .int (nI En), .ref q1, .ref q2, .ref q3, .ref q4, .ref q5, .ref q6, .int 0, .ref q7, .ref q8, .ref q9, .int 0, .int 0, .ref q10, .ref q11, .ref q12])), (q1, .inl (cI, 8, .inl (fun _ => 0))), (q2, .inl (cZ, 41, .inl (fun _ => 0))), (q3, .inl (cI, 41, .inl (fun _ => 0))), (q4, .inl (cI, 41, .inl (fun _ => 0))), (q5, .inl (cI, 41, .inl (fun _ => 0))), (q6, .inl (cI, 400, .inl (fun _ => 0))), (q7, .inl (cI, 400, .inl (fun _ => 0))), (q8, .inl (cI, 400, .inl (fun _ => 0))), (q9, .inl (cI, 400, .inl (fun _ => 0))), (q10, .inl (cI, 41, .inl (fun _ => 0))), (q11, .inl (cI, 41, .inl (fun _ => 0))), (q12, .inl (cZ, 41, .inl (fun _ => 0)))] H := hP
          have hD : va_D A [(h, .inr (2, [.int 0, .int (nI Wn), .int (nI En), .ref q1, .ref q2, .ref q3, .ref q4, .ref q5, .ref q6, .int 0, .ref q7, .ref q8, .ref q9, .int 0, .int 0, .ref q10, .ref q11, .ref q12])), (q1, .inl (cI, 8, .inl (fun _ => 0))), (q2, .inl (cZ, 41, .inl (fun _ => 0))), (q3, .inl (cI, 41, .inl (fun _ => 0))), (q4, .inl (cI, 41, .inl (fun _ => 0))), (q5, .inl (cI, 41, .inl (fun _ => 0))), (q6, .inl (cI, 400, .inl (fun _ => 0))), (q7, .inl (cI, 400, .inl (fun _ => 0))), (q8, .inl (cI, 400, .inl (fun _ => 0))), (q9, .inl (cI, 400, .inl (fun _ => 0))), (q10, .inl (cI, 41, .inl (fun _ => 0))), (q11, .inl (cI, 41, .inl (fun _ => 0))), (q12, .inl (cZ, 41, .inl (fun _ => 0)))] := hD
          have C : GC p s m _ c cM_init 3 RM wsA (dC, dI) gx_cl [(cI, .int), (cZ, .boolean)] A := ⟨⟨hx, hb, hml, hown, hts⟩, hK, hA, wsA_good⟩
          obtain ⟨o, ho⟩ : ∃ o : Nat → Nat, o = fun k => [h, q1, q2, q3, q4, q5, q6, q7, q8, q9, q10, q11, q12].getD k 0 := ⟨_, rfl⟩
          have hP2 : va_P (dC, dI) gx_cl (mw cI cZ o (m0 Wn En)) H := by rw [ho]; exact hP
          have hD2 : va_D A (mw cI cZ o (m0 Wn En)) := by rw [ho]; exact hD
          have h0 : h = o 0 := by rw [ho]; rfl
          have hl : lv_has ls 3 [(0, .ref (o 0))] := by rw [← h0]; exact lv_sub hl [0] rfl
          refine (?_ : GW (12) (0 + 8 + 41 + 41 + 41 + 41 + 400 + 400 + 400 + 400 + 41 + 41 + 41) p l e _ s m _ below meth c _ 3 (dC, dI) gx_cl A (mw cI cZ o) (m0 Wn En) 158 [(0, .ref (o 0))] []) H locs ls hl hP2 hD2 hS
          refine gx_aload_n C dM_init_158 0 rfl rfl ?_
          refine gx_iconst (v := 0) C dM_init_159 (by decide) ?_
          refine gx_aload_n C dM_init_160 0 rfl rfl ?_
          refine gx_get C mo_this hi_M 1 (by decide) fl_M_47 rfl dM_init_161 ?_
          refine gx_callv (As := [.int 0, .int (nI Wn)]) (rest := []) C (mt_M_give l dC dI cI cZ o _ _ _ _ hpo) (gx_cwV C 2 ln_M_54 im_M_give se_M_give in_CountedObjectsModel cd_M_give rfl rfl (by decide +kernel) ⟨Nat.le_of_ble_eq_true rfl, Nat.le_of_ble_eq_true rfl⟩) mo_this rfl (Nat.le_of_ble_eq_true rfl) dM_init_164 (fun S1 => mw_ad _ S1) rfl (fun S1 hs => ?_) ⟨by show 12 ≤ 12; omega, by show 0 + 8 + 41 + 41 + 41 + 41 + 400 + 400 + 400 + 400 + 41 + 41 + 41 ≤ 2000; omega⟩
          intro H locs ls h1 h2 h3 h4
          refine W.widen (k := 12) (n := 2000) (by omega) (by omega) ?_
          exact W.vret hx hb hr (fun t ht hW => ⟨⟨(o, S1), rfl, ⟨h0.symm, hs⟩, by rw [ht]; exact h2, va_K.moved hW.alike hK, h3⟩, h4.F ht⟩) h4.2.2 dM_init_167
      · skip
        refine lv_iconst (v := 2) hx hb dM_init_139 (by decide) ?_
        refine lv_goto hx hb dM_init_140 (tgt := 155) rfl ?_
        refine lv_topi (fun w ew => ?_)
        have ew : w = nI En := ew.trans ((cx_1 (lo := 2) (hi := 40) (L := 2) (by decide) (by decide) hc136).trans (by rw [hE]))
        subst ew
        refine va_putF (D := (dC, dI)) (ci := 2) (v := .int (nI En)) (ty := .int) (C := RM) (T := TM) (N := 18) hx hb hts hi_M tyM tyM_ok nmM hown hK hP hD hS 0 rfl rfl 2 (by decide) (hts _ fl_M_51) (fun _ h9 => h9) rfl hin rfl (by decide +kernel) rfl rfl (Nat.le_of_ble_eq_true rfl) dM_init_155 (fun H locs hP hD hS => ?_)
        have hP : va_P (dC, dI) gx_cl [(h, .inr (2, [.int 0, .int (nI Wn), .int (nI En), .ref q1, .ref q2, .ref q3, .ref q4, .ref q5, .ref q6, .int 0, .ref q7, .ref q8, .ref q9, .int 0, .int 0, .ref q10, .ref q11, .ref q12])), (q1, .inl (cI, 8, .inl (fun _ => 0))), (q2, .inl (cZ, 41, .inl (fun _ => 0))), (q3, .inl (cI, 41, .inl (fun _ => 0))), (q4, .inl (cI, 41, .inl (fun _ => 0))), (q5, .inl (cI, 41, .inl (fun _ => 0))), (q6, .inl (cI, 400, .inl (fun _ => 0))), (q7, .inl (cI, 400, .inl (fun _ => 0))), (q8, .inl (cI, 400, .inl (fun _ => 0))), (q9, .inl (cI, 400, .inl (fun _ => 0))), (q10, .inl (cI, 41, .inl (fun _ => 0))), (q11, .inl (cI, 41, .inl (fun _ => 0))), (q12, .inl (cZ, 41, .inl (fun _ => 0)))] H := hP
        have hD : va_D A [(h, .inr (2, [.int 0, .int (nI Wn), .int (nI En), .ref q1, .ref q2, .ref q3, .ref q4, .ref q5, .ref q6, .int 0, .ref q7, .ref q8, .ref q9, .int 0, .int 0, .ref q10, .ref q11, .ref q12])), (q1, .inl (cI, 8, .inl (fun _ => 0))), (q2, .inl (cZ, 41, .inl (fun _ => 0))), (q3, .inl (cI, 41, .inl (fun _ => 0))), (q4, .inl (cI, 41, .inl (fun _ => 0))), (q5, .inl (cI, 41, .inl (fun _ => 0))), (q6, .inl (cI, 400, .inl (fun _ => 0))), (q7, .inl (cI, 400, .inl (fun _ => 0))), (q8, .inl (cI, 400, .inl (fun _ => 0))), (q9, .inl (cI, 400, .inl (fun _ => 0))), (q10, .inl (cI, 41, .inl (fun _ => 0))), (q11, .inl (cI, 41, .inl (fun _ => 0))), (q12, .inl (cZ, 41, .inl (fun _ => 0)))] := hD
        have C : GC p s m _ c cM_init 3 RM wsA (dC, dI) gx_cl [(cI, .int), (cZ, .boolean)] A := ⟨⟨hx, hb, hml, hown, hts⟩, hK, hA, wsA_good⟩
        obtain ⟨o, ho⟩ : ∃ o : Nat → Nat, o = fun k => [h, q1, q2, q3, q4, q5, q6, q7, q8, q9, q10, q11, q12].getD k 0 := ⟨_, rfl⟩
        have hP2 : va_P (dC, dI) gx_cl (mw cI cZ o (m0 Wn En)) H := by rw [ho]; exact hP
        have hD2 : va_D A (mw cI cZ o (m0 Wn En)) := by rw [ho]; exact hD
        have h0 : h = o 0 := by rw [ho]; rfl
        have hl : lv_has ls 3 [(0, .ref (o 0))] := by rw [← h0]; exact lv_sub hl [0] rfl
        refine (?_ : GW (12) (0 + 8 + 41 + 41 + 41 + 41 + 400 + 400 + 400 + 400 + 41 + 41 + 41) p l e _ s m _ below meth c _ 3 (dC, dI) gx_cl A (mw cI cZ o) (m0 Wn En) 158 [(0, .ref (o 0))] []) H locs ls hl hP2 hD2 hS
        refine gx_aload_n C dM_init_158 0 rfl rfl ?_
        refine gx_iconst (v := 0) C dM_init_159 (by decide) ?_
        refine gx_aload_n C dM_init_160 0 rfl rfl ?_
        refine gx_get C mo_this hi_M 1 (by decide) fl_M_47 rfl dM_init_161 ?_
        refine gx_callv (As := [.int 0, .int (nI Wn)]) (rest := []) C (mt_M_give l dC dI cI cZ o _ _ _ _ hpo) (gx_cwV C 2 ln_M_54 im_M_give se_M_give in_CountedObjectsModel cd_M_give rfl rfl (by decide +kernel) ⟨Nat.le_of_ble_eq_true rfl, Nat.le_of_ble_eq_true rfl⟩) mo_this rfl (Nat.le_of_ble_eq_true rfl) dM_init_164 (fun S1 => mw_ad _ S1) rfl (fun S1 hs => ?_) ⟨by show 12 ≤ 12; omega, by show 0 + 8 + 41 + 41 + 41 + 41 + 400 + 400 + 400 + 400 + 41 + 41 + 41 ≤ 2000; omega⟩
        intro H locs ls h1 h2 h3 h4
        refine W.widen (k := 12) (n := 2000) (by omega) (by omega) ?_
        exact W.vret hx hb hr (fun t ht hW => ⟨⟨(o, S1), rfl, ⟨h0.symm, hs⟩, by rw [ht]; exact h2, va_K.moved hW.alike hK, h3⟩, h4.F ht⟩) h4.2.2 dM_init_167
  · skip
    refine lv_bipush (v := 16) hx hb dM_init_111 (by decide) ?_
    refine lv_goto hx hb dM_init_113 (tgt := 130) rfl ?_
    refine lv_topi (fun w ew => ?_)
    have ew : w = nI Wn := ew.trans ((cx_1 (lo := 16) (hi := 400) (L := 16) (by decide) (by decide) hc108).trans (by rw [hW]))
    subst ew
    refine va_putF (D := (dC, dI)) (ci := 2) (v := .int (nI Wn)) (ty := .int) (C := RM) (T := TM) (N := 18) hx hb hts hi_M tyM tyM_ok nmM hown hK hP hD hS 0 rfl rfl 1 (by decide) (hts _ fl_M_47) (fun _ h9 => h9) rfl hin rfl (by decide +kernel) rfl rfl (Nat.le_of_ble_eq_true rfl) dM_init_130 (fun H locs hP hD hS => ?_)
    have hP : va_P (dC, dI) gx_cl [(h, .inr (2, [.int 0, .int (nI Wn), .int 0, .ref q1, .ref q2, .ref q3, .ref q4, .ref q5, .ref q6, .int 0, .ref q7, .ref q8, .ref q9, .int 0, .int 0, .ref q10, .ref q11, .ref q12])), (q1, .inl (cI, 8, .inl (fun _ => 0))), (q2, .inl (cZ, 41, .inl (fun _ => 0))), (q3, .inl (cI, 41, .inl (fun _ => 0))), (q4, .inl (cI, 41, .inl (fun _ => 0))), (q5, .inl (cI, 41, .inl (fun _ => 0))), (q6, .inl (cI, 400, .inl (fun _ => 0))), (q7, .inl (cI, 400, .inl (fun _ => 0))), (q8, .inl (cI, 400, .inl (fun _ => 0))), (q9, .inl (cI, 400, .inl (fun _ => 0))), (q10, .inl (cI, 41, .inl (fun _ => 0))), (q11, .inl (cI, 41, .inl (fun _ => 0))), (q12, .inl (cZ, 41, .inl (fun _ => 0)))] H := hP
    have hD : va_D A [(h, .inr (2, [.int 0, .int (nI Wn), .int 0, .ref q1, .ref q2, .ref q3, .ref q4, .ref q5, .ref q6, .int 0, .ref q7, .ref q8, .ref q9, .int 0, .int 0, .ref q10, .ref q11, .ref q12])), (q1, .inl (cI, 8, .inl (fun _ => 0))), (q2, .inl (cZ, 41, .inl (fun _ => 0))), (q3, .inl (cI, 41, .inl (fun _ => 0))), (q4, .inl (cI, 41, .inl (fun _ => 0))), (q5, .inl (cI, 41, .inl (fun _ => 0))), (q6, .inl (cI, 400, .inl (fun _ => 0))), (q7, .inl (cI, 400, .inl (fun _ => 0))), (q8, .inl (cI, 400, .inl (fun _ => 0))), (q9, .inl (cI, 400, .inl (fun _ => 0))), (q10, .inl (cI, 41, .inl (fun _ => 0))), (q11, .inl (cI, 41, .inl (fun _ => 0))), (q12, .inl (cZ, 41, .inl (fun _ => 0)))] := hD
    refine lv_aload_n hx hb dM_init_133 rfl (lv_at hl 0 rfl) ?_
    refine lv_iload_n hx hb dM_init_134 rfl (lv_at hl 2 rfl) ?_
    refine lv_iconst (v := 2) hx hb dM_init_135 (by decide) ?_
    refine lv_icmp_ge hx hb dM_init_136 (tgt := 143) rfl (fun hc136 => ?_) (fun hc136 => ?_)
    · skip
      refine lv_iload_n hx hb dM_init_143 rfl (lv_at hl 2 rfl) ?_
      refine lv_bipush (v := 40) hx hb dM_init_144 (by decide) ?_
      refine lv_icmp_le hx hb dM_init_146 (tgt := 154) rfl (fun hc146 => ?_) (fun hc146 => ?_)
      · skip
        refine lv_iload_n hx hb dM_init_154 rfl (lv_at hl 2 rfl) ?_
        refine lv_topi (fun w ew => ?_)
        have ew : w = nI En := ew.trans ((cx_3 (lo := 2) (hi := 40) (L := 2) (H := 40) (by decide) (by decide) (by decide) hc136 hc146).trans (by rw [hE]))
        subst ew
        refine va_putF (D := (dC, dI)) (ci := 2) (v := .int (nI En)) (ty := .int) (C := RM) (T := TM) (N := 18) hx hb hts hi_M tyM tyM_ok nmM hown hK hP hD hS 0 rfl rfl 2 (by decide) (hts _ fl_M_51) (fun _ h9 => h9) rfl hin rfl (by decide +kernel) rfl rfl (Nat.le_of_ble_eq_true rfl) dM_init_155 (fun H locs hP hD hS => ?_)
        have hP : va_P (dC, dI) gx_cl [(h, .inr (2, [.int 0, .int (nI Wn), .int (nI En), .ref q1, .ref q2, .ref q3, .ref q4, .ref q5, .ref q6, .int 0, .ref q7, .ref q8, .ref q9, .int 0, .int 0, .ref q10, .ref q11, .ref q12])), (q1, .inl (cI, 8, .inl (fun _ => 0))), (q2, .inl (cZ, 41, .inl (fun _ => 0))), (q3, .inl (cI, 41, .inl (fun _ => 0))), (q4, .inl (cI, 41, .inl (fun _ => 0))), (q5, .inl (cI, 41, .inl (fun _ => 0))), (q6, .inl (cI, 400, .inl (fun _ => 0))), (q7, .inl (cI, 400, .inl (fun _ => 0))), (q8, .inl (cI, 400, .inl (fun _ => 0))), (q9, .inl (cI, 400, .inl (fun _ => 0))), (q10, .inl (cI, 41, .inl (fun _ => 0))), (q11, .inl (cI, 41, .inl (fun _ => 0))), (q12, .inl (cZ, 41, .inl (fun _ => 0)))] H := hP
        have hD : va_D A [(h, .inr (2, [.int 0, .int (nI Wn), .int (nI En), .ref q1, .ref q2, .ref q3, .ref q4, .ref q5, .ref q6, .int 0, .ref q7, .ref q8, .ref q9, .int 0, .int 0, .ref q10, .ref q11, .ref q12])), (q1, .inl (cI, 8, .inl (fun _ => 0))), (q2, .inl (cZ, 41, .inl (fun _ => 0))), (q3, .inl (cI, 41, .inl (fun _ => 0))), (q4, .inl (cI, 41, .inl (fun _ => 0))), (q5, .inl (cI, 41, .inl (fun _ => 0))), (q6, .inl (cI, 400, .inl (fun _ => 0))), (q7, .inl (cI, 400, .inl (fun _ => 0))), (q8, .inl (cI, 400, .inl (fun _ => 0))), (q9, .inl (cI, 400, .inl (fun _ => 0))), (q10, .inl (cI, 41, .inl (fun _ => 0))), (q11, .inl (cI, 41, .inl (fun _ => 0))), (q12, .inl (cZ, 41, .inl (fun _ => 0)))] := hD
        have C : GC p s m _ c cM_init 3 RM wsA (dC, dI) gx_cl [(cI, .int), (cZ, .boolean)] A := ⟨⟨hx, hb, hml, hown, hts⟩, hK, hA, wsA_good⟩
        obtain ⟨o, ho⟩ : ∃ o : Nat → Nat, o = fun k => [h, q1, q2, q3, q4, q5, q6, q7, q8, q9, q10, q11, q12].getD k 0 := ⟨_, rfl⟩
        have hP2 : va_P (dC, dI) gx_cl (mw cI cZ o (m0 Wn En)) H := by rw [ho]; exact hP
        have hD2 : va_D A (mw cI cZ o (m0 Wn En)) := by rw [ho]; exact hD
        have h0 : h = o 0 := by rw [ho]; rfl
        have hl : lv_has ls 3 [(0, .ref (o 0))] := by rw [← h0]; exact lv_sub hl [0] rfl
        refine (?_ : GW (12) (0 + 8 + 41 + 41 + 41 + 41 + 400 + 400 + 400 + 400 + 41 + 41 + 41) p l e _ s m _ below meth c _ 3 (dC, dI) gx_cl A (mw cI cZ o) (m0 Wn En) 158 [(0, .ref (o 0))] []) H locs ls hl hP2 hD2 hS
        refine gx_aload_n C dM_init_158 0 rfl rfl ?_
        refine gx_iconst (v := 0) C dM_init_159 (by decide) ?_
        refine gx_aload_n C dM_init_160 0 rfl rfl ?_
        refine gx_get C mo_this hi_M 1 (by decide) fl_M_47 rfl dM_init_161 ?_
        refine gx_callv (As := [.int 0, .int (nI Wn)]) (rest := []) C (mt_M_give l dC dI cI cZ o _ _ _ _ hpo) (gx_cwV C 2 ln_M_54 im_M_give se_M_give in_CountedObjectsModel cd_M_give rfl rfl (by decide +kernel) ⟨Nat.le_of_ble_eq_true rfl, Nat.le_of_ble_eq_true rfl⟩) mo_this rfl (Nat.le_of_ble_eq_true rfl) dM_init_164 (fun S1 => mw_ad _ S1) rfl (fun S1 hs => ?_) ⟨by show 12 ≤ 12; omega, by show 0 + 8 + 41 + 41 + 41 + 41 + 400 + 400 + 400 + 400 + 41 + 41 + 41 ≤ 2000; omega⟩
        intro H locs ls h1 h2 h3 h4
        refine W.widen (k := 12) (n := 2000) (by omega) (by omega) ?_
        exact W.vret hx hb hr (fun t ht hW => ⟨⟨(o, S1), rfl, ⟨h0.symm, hs⟩, by rw [ht]; exact h2, va_K.moved hW.alike hK, h3⟩, h4.F ht⟩) h4.2.2 dM_init_167
      · skip
        refine lv_bipush (v := 40) hx hb dM_init_149 (by decide) ?_
        refine lv_goto hx hb dM_init_151 (tgt := 155) rfl ?_
        refine lv_topi (fun w ew => ?_)
        have ew : w = nI En := ew.trans ((cx_2 (lo := 2) (hi := 40) (L := 2) (H := 40) (by decide) (by decide) (by decide) hc136 hc146).trans (by rw [hE]))
        subst ew
        refine va_putF (D := (dC, dI)) (ci := 2) (v := .int (nI En)) (ty := .int) (C := RM) (T := TM) (N := 18) hx hb hts hi_M tyM tyM_ok nmM hown hK hP hD hS 0 rfl rfl 2 (by decide) (hts _ fl_M_51) (fun _ h9 => h9) rfl hin rfl (by decide +kernel) rfl rfl (Nat.le_of_ble_eq_true rfl) dM_init_155 (fun H locs hP hD hS => ?_)
        have hP : va_P (dC, dI) gx_cl [(h, .inr (2, [.int 0, .int (nI Wn), .int (nI En), .ref q1, .ref q2, .ref q3, .ref q4, .ref q5, .ref q6, .int 0, .ref q7, .ref q8, .ref q9, .int 0, .int 0, .ref q10, .ref q11, .ref q12])), (q1, .inl (cI, 8, .inl (fun _ => 0))), (q2, .inl (cZ, 41, .inl (fun _ => 0))), (q3, .inl (cI, 41, .inl (fun _ => 0))), (q4, .inl (cI, 41, .inl (fun _ => 0))), (q5, .inl (cI, 41, .inl (fun _ => 0))), (q6, .inl (cI, 400, .inl (fun _ => 0))), (q7, .inl (cI, 400, .inl (fun _ => 0))), (q8, .inl (cI, 400, .inl (fun _ => 0))), (q9, .inl (cI, 400, .inl (fun _ => 0))), (q10, .inl (cI, 41, .inl (fun _ => 0))), (q11, .inl (cI, 41, .inl (fun _ => 0))), (q12, .inl (cZ, 41, .inl (fun _ => 0)))] H := hP
        have hD : va_D A [(h, .inr (2, [.int 0, .int (nI Wn), .int (nI En), .ref q1, .ref q2, .ref q3, .ref q4, .ref q5, .ref q6, .int 0, .ref q7, .ref q8, .ref q9, .int 0, .int 0, .ref q10, .ref q11, .ref q12])), (q1, .inl (cI, 8, .inl (fun _ => 0))), (q2, .inl (cZ, 41, .inl (fun _ => 0))), (q3, .inl (cI, 41, .inl (fun _ => 0))), (q4, .inl (cI, 41, .inl (fun _ => 0))), (q5, .inl (cI, 41, .inl (fun _ => 0))), (q6, .inl (cI, 400, .inl (fun _ => 0))), (q7, .inl (cI, 400, .inl (fun _ => 0))), (q8, .inl (cI, 400, .inl (fun _ => 0))), (q9, .inl (cI, 400, .inl (fun _ => 0))), (q10, .inl (cI, 41, .inl (fun _ => 0))), (q11, .inl (cI, 41, .inl (fun _ => 0))), (q12, .inl (cZ, 41, .inl (fun _ => 0)))] := hD
        have C : GC p s m _ c cM_init 3 RM wsA (dC, dI) gx_cl [(cI, .int), (cZ, .boolean)] A := ⟨⟨hx, hb, hml, hown, hts⟩, hK, hA, wsA_good⟩
        obtain ⟨o, ho⟩ : ∃ o : Nat → Nat, o = fun k => [h, q1, q2, q3, q4, q5, q6, q7, q8, q9, q10, q11, q12].getD k 0 := ⟨_, rfl⟩
        have hP2 : va_P (dC, dI) gx_cl (mw cI cZ o (m0 Wn En)) H := by rw [ho]; exact hP
        have hD2 : va_D A (mw cI cZ o (m0 Wn En)) := by rw [ho]; exact hD
        have h0 : h = o 0 := by rw [ho]; rfl
        have hl : lv_has ls 3 [(0, .ref (o 0))] := by rw [← h0]; exact lv_sub hl [0] rfl
        refine (?_ : GW (12) (0 + 8 + 41 + 41 + 41 + 41 + 400 + 400 + 400 + 400 + 41 + 41 + 41) p l e _ s m _ below meth c _ 3 (dC, dI) gx_cl A (mw cI cZ o) (m0 Wn En) 158 [(0, .ref (o 0))] []) H locs ls hl hP2 hD2 hS
        refine gx_aload_n C dM_init_158 0 rfl rfl ?_
        refine gx_iconst (v := 0) C dM_init_159 (by decide) ?_
        refine gx_aload_n C dM_init_160 0 rfl rfl ?_
        refine gx_get C mo_this hi_M 1 (by decide) fl_M_47 rfl dM_init_161 ?_
        refine gx_callv (As := [.int 0, .int (nI Wn)]) (rest := []) C (mt_M_give l dC dI cI cZ o _ _ _ _ hpo) (gx_cwV C 2 ln_M_54 im_M_give se_M_give in_CountedObjectsModel cd_M_give rfl rfl (by decide +kernel) ⟨Nat.le_of_ble_eq_true rfl, Nat.le_of_ble_eq_true rfl⟩) mo_this rfl (Nat.le_of_ble_eq_true rfl) dM_init_164 (fun S1 => mw_ad _ S1) rfl (fun S1 hs => ?_) ⟨by show 12 ≤ 12; omega, by show 0 + 8 + 41 + 41 + 41 + 41 + 400 + 400 + 400 + 400 + 41 + 41 + 41 ≤ 2000; omega⟩
        intro H locs ls h1 h2 h3 h4
        refine W.widen (k := 12) (n := 2000) (by omega) (by omega) ?_
        exact W.vret hx hb hr (fun t ht hW => ⟨⟨(o, S1), rfl, ⟨h0.symm, hs⟩, by rw [ht]; exact h2, va_K.moved hW.alike hK, h3⟩, h4.F ht⟩) h4.2.2 dM_init_167
    · skip
      refine lv_iconst (v := 2) hx hb dM_init_139 (by decide) ?_
      refine lv_goto hx hb dM_init_140 (tgt := 155) rfl ?_
      refine lv_topi (fun w ew => ?_)
      have ew : w = nI En := ew.trans ((cx_1 (lo := 2) (hi := 40) (L := 2) (by decide) (by decide) hc136).trans (by rw [hE]))
      subst ew
      refine va_putF (D := (dC, dI)) (ci := 2) (v := .int (nI En)) (ty := .int) (C := RM) (T := TM) (N := 18) hx hb hts hi_M tyM tyM_ok nmM hown hK hP hD hS 0 rfl rfl 2 (by decide) (hts _ fl_M_51) (fun _ h9 => h9) rfl hin rfl (by decide +kernel) rfl rfl (Nat.le_of_ble_eq_true rfl) dM_init_155 (fun H locs hP hD hS => ?_)
      have hP : va_P (dC, dI) gx_cl [(h, .inr (2, [.int 0, .int (nI Wn), .int (nI En), .ref q1, .ref q2, .ref q3, .ref q4, .ref q5, .ref q6, .int 0, .ref q7, .ref q8, .ref q9, .int 0, .int 0, .ref q10, .ref q11, .ref q12])), (q1, .inl (cI, 8, .inl (fun _ => 0))), (q2, .inl (cZ, 41, .inl (fun _ => 0))), (q3, .inl (cI, 41, .inl (fun _ => 0))), (q4, .inl (cI, 41, .inl (fun _ => 0))), (q5, .inl (cI, 41, .inl (fun _ => 0))), (q6, .inl (cI, 400, .inl (fun _ => 0))), (q7, .inl (cI, 400, .inl (fun _ => 0))), (q8, .inl (cI, 400, .inl (fun _ => 0))), (q9, .inl (cI, 400, .inl (fun _ => 0))), (q10, .inl (cI, 41, .inl (fun _ => 0))), (q11, .inl (cI, 41, .inl (fun _ => 0))), (q12, .inl (cZ, 41, .inl (fun _ => 0)))] H := hP
      have hD : va_D A [(h, .inr (2, [.int 0, .int (nI Wn), .int (nI En), .ref q1, .ref q2, .ref q3, .ref q4, .ref q5, .ref q6, .int 0, .ref q7, .ref q8, .ref q9, .int 0, .int 0, .ref q10, .ref q11, .ref q12])), (q1, .inl (cI, 8, .inl (fun _ => 0))), (q2, .inl (cZ, 41, .inl (fun _ => 0))), (q3, .inl (cI, 41, .inl (fun _ => 0))), (q4, .inl (cI, 41, .inl (fun _ => 0))), (q5, .inl (cI, 41, .inl (fun _ => 0))), (q6, .inl (cI, 400, .inl (fun _ => 0))), (q7, .inl (cI, 400, .inl (fun _ => 0))), (q8, .inl (cI, 400, .inl (fun _ => 0))), (q9, .inl (cI, 400, .inl (fun _ => 0))), (q10, .inl (cI, 41, .inl (fun _ => 0))), (q11, .inl (cI, 41, .inl (fun _ => 0))), (q12, .inl (cZ, 41, .inl (fun _ => 0)))] := hD
      have C : GC p s m _ c cM_init 3 RM wsA (dC, dI) gx_cl [(cI, .int), (cZ, .boolean)] A := ⟨⟨hx, hb, hml, hown, hts⟩, hK, hA, wsA_good⟩
      obtain ⟨o, ho⟩ : ∃ o : Nat → Nat, o = fun k => [h, q1, q2, q3, q4, q5, q6, q7, q8, q9, q10, q11, q12].getD k 0 := ⟨_, rfl⟩
      have hP2 : va_P (dC, dI) gx_cl (mw cI cZ o (m0 Wn En)) H := by rw [ho]; exact hP
      have hD2 : va_D A (mw cI cZ o (m0 Wn En)) := by rw [ho]; exact hD
      have h0 : h = o 0 := by rw [ho]; rfl
      have hl : lv_has ls 3 [(0, .ref (o 0))] := by rw [← h0]; exact lv_sub hl [0] rfl
      refine (?_ : GW (12) (0 + 8 + 41 + 41 + 41 + 41 + 400 + 400 + 400 + 400 + 41 + 41 + 41) p l e _ s m _ below meth c _ 3 (dC, dI) gx_cl A (mw cI cZ o) (m0 Wn En) 158 [(0, .ref (o 0))] []) H locs ls hl hP2 hD2 hS
      refine gx_aload_n C dM_init_158 0 rfl rfl ?_
      refine gx_iconst (v := 0) C dM_init_159 (by decide) ?_
      refine gx_aload_n C dM_init_160 0 rfl rfl ?_
      refine gx_get C mo_this hi_M 1 (by decide) fl_M_47 rfl dM_init_161 ?_
      refine gx_callv (As := [.int 0, .int (nI Wn)]) (rest := []) C (mt_M_give l dC dI cI cZ o _ _ _ _ hpo) (gx_cwV C 2 ln_M_54 im_M_give se_M_give in_CountedObjectsModel cd_M_give rfl rfl (by decide +kernel) ⟨Nat.le_of_ble_eq_true rfl, Nat.le_of_ble_eq_true rfl⟩) mo_this rfl (Nat.le_of_ble_eq_true rfl) dM_init_164 (fun S1 => mw_ad _ S1) rfl (fun S1 hs => ?_) ⟨by show 12 ≤ 12; omega, by show 0 + 8 + 41 + 41 + 41 + 41 + 400 + 400 + 400 + 400 + 41 + 41 + 41 ≤ 2000; omega⟩
      intro H locs ls h1 h2 h3 h4
      refine W.widen (k := 12) (n := 2000) (by omega) (by omega) ?_
      exact W.vret hx hb hr (fun t ht hW => ⟨⟨(o, S1), rfl, ⟨h0.symm, hs⟩, by rw [ht]; exact h2, va_K.moved hW.alike hK, h3⟩, h4.F ht⟩) h4.2.2 dM_init_167
