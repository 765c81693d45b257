/-! The law from its entry to its loop: the two objects are made, and the array 'out'. -/
theorem is_X : Cond.instantiable RX 8 ∈ wsA := wsA_in (i := 14) (by decide +kernel) (by decide +kernel)
theorem is_M : Cond.instantiable RM 18 ∈ wsA := wsA_in (i := 382) (by decide +kernel) (by decide +kernel)
theorem cl_L_8 : Cond.classLink RL 8 RX ∈ wsA := wsA_in (i := 13) (by decide +kernel) (by decide +kernel)
theorem cl_L_51 : Cond.classLink RL 51 RM ∈ wsA := wsA_in (i := 381) (by decide +kernel) (by decide +kernel)
theorem tb_in {w : Cond} {i : Nat} (h : tables_1[i]? = some w) : w ∈ lw_tbl := List.mem_append_right _ (List.mem_of_getElem? h)
theorem tb_c1 : Cond.castable xE1 xE1 ∈ lw_tbl := tb_in (i := 187) (by decide +kernel)
theorem tb_c2 : Cond.castable xE2 xE2 ∈ lw_tbl := tb_in (i := 254) (by decide +kernel)
theorem tb_c3 : Cond.castable xE3 xE3 ∈ lw_tbl := tb_in (i := 295) (by decide +kernel)
theorem tb_dr : Cond.declares (Bundle.init0 "java/lang/RuntimeException") ∈ lw_tbl := tb_in (i := 188) (by decide +kernel)
theorem tb_de : Cond.declares (Bundle.init0 "java/lang/Exception") ∈ lw_tbl := tb_in (i := 190) (by decide +kernel)
theorem tb_dt : Cond.declares (Bundle.init0 "java/lang/Throwable") ∈ lw_tbl := tb_in (i := 192) (by decide +kernel)
theorem tb_n : Cond.fieldLinkNest RX 111 RF "held" "I" RX ∈ lw_tbl := tb_in (i := 36) (by decide +kernel)
theorem tb_s1 : Cond.laysStatic Bundle.tN "UNASSIGNED_STACK" Bundle.steD ∈ lw_tbl := tb_in (i := 212) (by decide +kernel)
theorem tb_s2 : Cond.laysStatic Bundle.tN "SUPPRESSED_SENTINEL" Bundle.listD ∈ lw_tbl := tb_in (i := 214) (by decide +kernel)
theorem tb_it : Cond.initialized Bundle.tN ∈ lw_tbl := tb_in (i := 6) (by decide +kernel)
theorem dL_cell_0 : decode cL_cell 0 = .ok (.iload_n 1, 1) := by decide +kernel
theorem dL_cell_1 : decode cL_cell 1 = .ok (.aload_n 0, 1) := by decide +kernel
theorem dL_cell_2 : decode cL_cell 2 = .ok (.arraylength, 1) := by decide +kernel
theorem dL_cell_3 : decode cL_cell 3 = .ok (.if_icmp .ge 9, 3) := by decide +kernel
theorem dL_cell_6 : decode cL_cell 6 = .ok (.aload_n 0, 1) := by decide +kernel
theorem dL_cell_7 : decode cL_cell 7 = .ok (.iload_n 1, 1) := by decide +kernel
theorem dL_cell_8 : decode cL_cell 8 = .ok (.iaload, 1) := by decide +kernel
theorem dL_cell_9 : decode cL_cell 9 = .ok (.goto 4, 3) := by decide +kernel
theorem dL_cell_12 : decode cL_cell 12 = .ok (.iconst 0, 1) := by decide +kernel
theorem dL_cell_13 : decode cL_cell 13 = .ok (.ireturn, 1) := by decide +kernel
theorem ar_known {s : State} {args : Array Value} {ty : FieldType} (hp : ∀ C, ty ≠ .object C) (h : (Cond.arrayClass ty).before args s = true) : ∃ cA : ClassId, ArrOfT s cA ty ∧ va_RA s cA ty := by
  obtain ⟨cA, kA, comp, h1, h2, h3⟩ := Cond.arrayClass_spec h
  refine ⟨cA, fun n z => ⟨fun k h => (by cases h), kA, h2, comp, h3⟩, ?_⟩
  cases ty with
  | object C => exact absurd rfl (hp C)
  | _ => exact h1
/-- the script's place k, or 0 beyond its end -/
def cellv (Ln : Nat) (xs : Nat → Int32) (k : Nat) : Int32 := if k < Ln then xs k else 0
set_option maxHeartbeats 4000000 in
set_option maxRecDepth 100000 in
theorem mt_L_cell (l : Launch) (b Ln : Nat) (xs : Nat → Int32) (k : Nat) (hk : k < 4) (hLn : Ln ≤ 2050) : Met l yL_cell (Cond.code yL_cell cL_cell 2 (some .int) :: wsA) ({ frames := 0, cells := 0, slots := 0, locals := 0 }) (va_Pc [.ref b, .int (nI k)] (fun U => va_X b Ln xs U U.heap ∧ b < U.heap.size)) (vp_Si (fun r => r = cellv Ln xs k)) 0 0 (fun _ => False) := by
  refine Met.ofW (cc := cL_cell) (maxL := 2) (ret := some .int) (by decide) rfl ?_
  intro p e s m args below meth c s₁ B hml hv
  obtain ⟨rfl, hX, hbl⟩ := hv
  have hx := B.exec
  have hb := B.bytes
  have hr := B.returns
  have hlocks := B.notSynchronized
  have hS : va_S (fun _ => False) s.heap s.heap [] := va_S.rf
  have hl := lv_entry ([.ref b, .int (nI k)]) (n := 2) (Nat.le_of_ble_eq_true rfl)
  rw [lg_entry_eq]
  generalize (lg_sl ([.ref b, .int (nI k)]) ++ List.replicate (2 - (lg_sl ([.ref b, .int (nI k)])).length) Slot.unset).toArray = ls at hl ⊢
  have hl : lv_has ls 2 [(0, .ref b), (1, .int (nI k))] := hl
  refine lv_iload_n hx hb dL_cell_0 rfl (lv_at hl 1 rfl) ?_
  refine lv_aload_n hx hb dL_cell_1 rfl (lv_at hl 0 rfl) ?_
  refine va_slen hx hb hX hbl (A := fun _ => False) (fun h => h) hS dL_cell_2 ?_
  refine lv_icmp_ge hx hb dL_cell_3 (tgt := 12) rfl (fun hc => ?_) (fun hc => ?_)
  · refine lv_iconst (v := 0) hx hb dL_cell_12 (by decide) ?_
    have h1 : ¬ k < Ln := fun h => nI_ge h (by omega) hc
    exact W.iret hx hb hr (fun t ht hW => ⟨0, rfl, by unfold cellv; rw [if_neg h1], ht⟩) (fun _ h => by cases h) dL_cell_13
  · have h1 : k < Ln := by
      rcases Nat.lt_or_ge k Ln with h | h
      · exact h
      · exact absurd (nI_le h (by omega)) hc
    refine lv_aload_n hx hb dL_cell_6 rfl (lv_at hl 0 rfl) ?_
    refine lv_iload_n hx hb dL_cell_7 rfl (lv_at hl 1 rfl) ?_
    refine va_sld hx hb hX hbl (A := fun _ => False) (fun h => h) hS (vp_in_nI h1 (by omega)) dL_cell_8 ?_
    refine lv_goto hx hb dL_cell_9 (tgt := 13) rfl ?_
    rw [nI_clamp (by omega)]
    exact W.iret hx hb hr (fun t ht hW => ⟨xs k, rfl, by unfold cellv; rw [if_pos h1], ht⟩) (fun _ h => by cases h) dL_cell_13
theorem gl_cell {p : Program} {l : Launch} {e : Env} {s : State} {m : MethodId} {b Ln : Nat} {xs : Nat → Int32} {below : List Frame} {meth : Method} {c : Code} {A : Nat → Prop} {Q : State → Prop} {H : Heap} {locs : List Loc} {cells slots pc : Nat} {ls : Array Slot} {rest : List Value} (S : CallFix p m c code 7 s #[Value.ref b] wsA RL) (hX : va_X b Ln xs s s.heap) (hbl : b < s.heap.size) (hbA : ¬ A b) (hS : va_S A s.heap H locs) (hls : ls.size = 7) {k : Nat} (hk : k < 4) (hLn : Ln ≤ 2050) (hw : (rest.map fun v => v.category).sum ≤ 8) (hcs : cells ≤ 601024 ∧ slots ≤ 7293000) (d : decode code pc = .ok (.invokestatic 43, 3)) (kk : W p l e room_1 s m #[Value.ref b] below meth c H locs cells slots Q (F0 m (pc + 3) ls (.int (cellv Ln xs k) :: rest))) : W p l e room_1 s m #[Value.ref b] below meth c H locs cells slots Q (F0 m pc ls (.int (nI k) :: .ref b :: rest)) := by
  refine vp_callSi (W.runS (As := [.ref b, .int (nI k)]) (rest := rest) S (mt_L_cell l b Ln xs k hk hLn) (cwS 2 S.2.2.2.2 (gx_good wsA_good ?_) rfl rfl rfl (by decide +kernel) ⟨Nat.le_of_ble_eq_true rfl, Nat.le_of_ble_eq_true rfl⟩) ⟨fun a U g mk q => ?_, fun U hU hW => ⟨rfl, ?_, ?_⟩⟩ rfl rfl hls rfl (lv_room hw) d hcs) (fun r hr => by rw [hr]; exact kk)
  · intro w hw
    unfold wsS at hw
    rcases List.mem_append.mp hw with hw | hw
    · rcases List.mem_cons.mp hw with rfl | hw
      · exact ln_L_43
      · rcases List.mem_cons.mp hw with rfl | hw
        · exact sm_L_cell
        · rw [List.mem_singleton.mp hw]; exact in_CountedObjectsLaw
    · rcases List.mem_cons.mp hw with rfl | hw
      · exact cd_L_cell
      · exact hw
  · obtain ⟨q0, q1, q2⟩ := q
    exact ⟨q0, q1.moved (u := U) (U := U.calling g mk a) (Vm.Alike.refl U.vm), q2⟩
  · rw [hU]
    exact (hX.kept (hS.2.1 b hbl hbA)).moved hW.alike
  · rw [hU]
    exact Nat.lt_of_lt_of_le hbl hS.1
/-- the two sides' contents, and out's -/
def lcomb (X M : GS) : GS := fun k => if 200 ≤ k then M (k - 200) else if k = 150 then (fun _ => 0) else X k
theorem lm_comb (X M : GS) : lm (lcomb X M) = M := by
  funext k
  show (if 200 ≤ 200 + k then M (200 + k - 200) else _) = M k
  rw [if_pos (by omega), Nat.add_sub_cancel_left]
theorem lx_comb (X M : GS) : ∀ k, k < 150 → X k = lcomb X M k := fun k h => by
  show X k = if 200 ≤ k then _ else if k = 150 then _ else X k
  rw [if_neg (by omega), if_neg (by omega)]
theorem out0 : (fun _ => 0 : Nat → Int64) = vp_updL (fun _ => 0) 0 ((0 : Int32).toInt64) := by
  funext j
  unfold vp_updL
  split <;> rfl
set_option maxHeartbeats 8000000 in
set_option maxRecDepth 100000 in
/-- the law's walk, given what is to be shown of class and reference -/
theorem whole_open {p : Program} {e : Env} {s : State} {m : MethodId} {below : List Frame} {meth : Method} {c : Code} (l : Launch) (hl9 : l.stackTraces = false) {b Ln : Nat} {xs : Nat → Int32} (hL : Ln ≤ 2050) (C0 : lw_At p s m meth c b Ln xs) (JJ : Nat → Nat → Nat → GS → GS → Prop) (hSim : ∀ Wn En, 16 ≤ Wn → Wn ≤ 400 → 2 ≤ En → En ≤ 40 → SIM Wn En (JJ Wn En))
    (hIni : ∀ Wn En, 16 ≤ Wn → Wn ≤ 400 → 2 ≤ En → En ≤ 40 → wp_M_give [0, nI Wn] (m0 Wn En) (fun M => JJ Wn En 0 (fl_row 1 (En + 1) (-1) (x0 Wn)) M)) : W p l e room_1 s m #[Value.ref b] below meth c s.heap [] 0 0 (lw_Z below #[Value.ref b] s) (entryFrame m ([Value.ref b] : List Value).toArray 7) := by
  obtain ⟨hx, hb, hr, hml, hown0, htb, hX, hbl, hlocks, hgv⟩ := C0
  have hts : ∀ w ∈ wsA, w.before #[Value.ref b] s = true := fun w h => htb w (wsA_tbl w h)
  have hown : s.vm.findClass RL = some m.cls := hown0
  have hfl := flat_of_before _ hgv
  obtain ⟨cX, iX, kX⟩ := u_known hts hi_X (hts _ is_X)
  obtain ⟨cF, iF, kF⟩ := u_known hts hi_F (hts _ is_F)
  obtain ⟨cM, iM, kM⟩ := u_known hts hi_M (hts _ is_M)
  obtain ⟨cI, aI, rI⟩ := ar_known (ty := .int) (fun C h => by cases h) (hts _ ac_int)
  obtain ⟨cZ, aZ, rZ⟩ := ar_known (ty := .boolean) (fun C h => by cases h) (hts _ ac_boolean)
  obtain ⟨cL, aL, rL⟩ := ar_known (ty := .long) (fun C h => by cases h) (hts _ ac_long)
  obtain ⟨dC, hdC⟩ : ∃ f : Nat → ClassId, f = fun k => if k = 0 then cX else if k = 1 then cF else cM := ⟨_, rfl⟩
  obtain ⟨dI, hdI⟩ : ∃ f : Nat → Nat → Nat, f = fun k => if k = 0 then iX else if k = 1 then iF else iM := ⟨_, rfl⟩
  have hK3 : va_K (dC, dI) gx_cl (ltys cI cZ cL) s := by
    rw [hdC, hdI]
    refine ⟨fun k q hq => ?_, fun k q hq => ?_⟩
    · match k, hq with
      | 0, hq => cases hq; exact kX
      | 1, hq => cases hq; exact kF
      | 2, hq => cases hq; exact kM
      | k + 3, hq => cases hq
    · match k, hq with
      | 0, hq => cases hq; exact ⟨aI, rI⟩
      | 1, hq => cases hq; exact ⟨aZ, rZ⟩
      | 2, hq => cases hq; exact ⟨aL, rL⟩
      | k + 3, hq => cases hq
  have hK := hK3.sub (tys' := [(cI, .int), (cZ, .boolean)]) [0, 1] rfl
  obtain ⟨A, hAe⟩ : ∃ A : Nat → Prop, A = fun q => s.heap.size ≤ q := ⟨_, rfl⟩
  have hA : ∀ q, s.heap.size ≤ q → A q := fun q h => by rw [hAe]; exact h
  have hA2 : ∀ q, A q → s.heap.size ≤ q := fun q h => by rw [hAe] at h; exact h
  have hAn : ∀ a : Nat, a < s.heap.size → ¬ A a := fun a h h2 => by have := hA2 a h2; omega
  have hbA : ¬ A b := hAn b hbl
  have hZ : ZL A s := ⟨⟨va_Nw.of rfl (htb _ tb_c1), va_Nw.of rfl (htb _ tb_c2), va_Nw.of rfl (htb _ tb_c3), vx_Zqof (htb _ tb_s1) (htb _ tb_it) (hfl _ (by decide +kernel)) hAn, vx_Zqof (htb _ tb_s2) (htb _ tb_it) (hfl _ (by decide +kernel)) hAn, va_Nw.of rfl (htb _ tb_n), va_Nw.of rfl (htb _ tb_dr), va_Nw.of rfl (htb _ tb_de), va_Nw.of rfl (htb _ tb_dt)⟩,
    va_Nc.of (args := #[Value.ref b]) (hfl _ (by decide +kernel)), va_Nc.of (args := #[Value.ref b]) (hfl _ (by decide +kernel)), va_Nc.of (args := #[Value.ref b]) (hfl _ (by decide +kernel)), va_Nc.of (args := #[Value.ref b]) (hfl _ (by decide +kernel))⟩
  have hS : va_S A s.heap s.heap [] := va_S.rf
  have hP : va_P (dC, dI) gx_cl [] s.heap := fun k q h => by simp at h
  have hD : va_D A [] := ⟨fun i j x y h => by simp at h, fun k q h => by simp at h⟩
  have hl := lv_entry ([.ref b]) (n := 7) (Nat.le_of_ble_eq_true rfl)
  rw [lg_entry_eq]
  generalize (lg_sl ([.ref b]) ++ List.replicate (7 - (lg_sl ([.ref b])).length) Slot.unset).toArray = ls at hl ⊢
  have hl : lv_has ls 7 [(0, .ref b)] := hl
  have CF : CallFix p m c code 7 s #[Value.ref b] wsA RL := ⟨hx, hb, hml, hown, hts⟩
  refine va_new (ci := 0) (fs := [.null, .null, .null, .null, .null, .null, .null, .int 0]) (C := RX) (T := TX) (N := 8) hx hb hts hi_X tyX tyX_ok hown (hts _ cl_L_8) (hts _ is_X) (hts _ in_CountedObjects) hK hP hD hS hA rfl (fun j hj => by rcases (show j = 0 ∨ j = 1 ∨ j = 2 ∨ j = 3 ∨ j = 4 ∨ j = 5 ∨ j = 6 ∨ j = 7 by omega) with rfl | rfl | rfl | rfl | rfl | rfl | rfl | rfl <;> rfl) (by show 0 + 1 ≤ 601024; omega) (by show 0 + 8 ≤ 7293000; omega) dL_law_0 (fun qx H hP hD hS => ?_)
  have hP : va_P (dC, dI) gx_cl [(qx, .inr (0, [.null, .null, .null, .null, .null, .null, .null, .int 0]))] H := hP
  have hD : va_D A [(qx, .inr (0, [.null, .null, .null, .null, .null, .null, .null, .int 0]))] := hD
  refine lv_dup hx hb dL_law_3 rfl ?_
  refine lv_aload_n hx hb dL_law_4 rfl (lv_at hl 0 rfl) ?_
  refine lv_iconst (v := nI 0) hx hb dL_law_5 (by decide) ?_
  refine gl_cell CF hX hbl hbA hS hl.1 (k := 0) (by decide) hL (Nat.le_of_ble_eq_true rfl) ⟨by omega, by omega⟩ dL_law_6 ?_
  refine lv_aload_n hx hb dL_law_9 rfl (lv_at hl 0 rfl) ?_
  refine lv_iconst (v := nI 1) hx hb dL_law_10 (by decide) ?_
  refine gl_cell CF hX hbl hbA hS hl.1 (k := 1) (by decide) hL (Nat.le_of_ble_eq_true rfl) ⟨by omega, by omega⟩ dL_law_11 ?_
  obtain ⟨Wn, hW⟩ : ∃ z, z = cx_clamp 16 400 (cellv Ln xs 0) := ⟨_, rfl⟩
  obtain ⟨En, hE⟩ : ∃ z, z = cx_clamp 2 40 (cellv Ln xs 1) := ⟨_, rfl⟩
  have hWb := cx_in (lo := 16) (hi := 400) (by decide) (cellv Ln xs 0)
  have hEb := cx_in (lo := 2) (hi := 40) (by decide) (cellv Ln xs 1)
  rw [← hW] at hWb
  rw [← hE] at hEb
  have hFc := va_free (wc := [(qx, .inr (0, [.null, .null, .null, .null, .null, .null, .null, .int 0]))]) hD hS hA [0] rfl
  refine va_callv (va_runI (As := [.int (cellv Ln xs 0), .int (cellv Ln xs 1)]) (rest := [.ref qx]) CF (mt_X_init l dC dI cI cZ qx _ _ Wn En hW hE H.size) (cwI 2 hts (gx_good wsA_good (fun w hw => (List.mem_cons.mp hw).elim (fun e => e ▸ cd_X_init) id)) rfl rfl rfl (hts _ in_CountedObjects) (hts _ ln_L_49) (hts _ im_X_init) rfl (by decide +kernel) ⟨Nat.le_of_ble_eq_true rfl, Nat.le_of_ble_eq_true rfl⟩) ⟨fun a U g mk q => by obtain ⟨q0, q1, qP, qK, qD⟩ := q; exact ⟨q0, q1, qP, va_K.moved (u := U) (U := U.calling g mk a) (Vm.Alike.refl U.vm) qK, qD⟩, fun U hU hW => ⟨rfl, by rw [hU], by rw [hU]; exact hP, va_K.moved hW.alike hK, hD.weaken (fun _ _ _ _ => trivial)⟩⟩ rfl rfl hl.1 rfl (lv_room (Nat.le_of_ble_eq_true rfl)) dL_law_14 ⟨by show 0 + 1 + 9 ≤ 601024; omega, by show 0 + 8 + 2000 ≤ 7293000; omega⟩) hS (fun q _ h => hFc q h) hFc (fun o t H1 locs ht hvm h5 hB hz1 hk1 hS => ?_)
  obtain ⟨hP1, hK1, hD1⟩ := hB
  rw [ht] at hP1
  subst h5
  obtain ⟨hP, hD⟩ := va_join (wr := []) (w1 := xw cI cZ o Wn En (fl_row 1 (En + 1) (-1) (x0 Wn))) hP hD [0] [] rfl rfl (by decide) (by decide) hk1 hFc hP1 hD1
  generalize H1 = H at hP hS ⊢
  have hP : va_P (dC, dI) gx_cl (xw cI cZ o Wn En (fl_row 1 (En + 1) (-1) (x0 Wn))) H := hP
  have hD : va_D A (xw cI cZ o Wn En (fl_row 1 (En + 1) (-1) (x0 Wn))) := hD
  refine lv_astore_n (lv' := [(1, .ref (o 0)), (0, .ref b)]) hx hb dL_law_17 rfl hl (by decide) rfl (fun ls hl => ?_)
  refine va_new (ci := 2) (fs := [.int 0, .int 0, .int 0, .null, .null, .null, .null, .null, .null, .int 0, .null, .null, .null, .int 0, .int 0, .null, .null, .null]) (C := RM) (T := TM) (N := 18) hx hb hts hi_M tyM tyM_ok hown (hts _ cl_L_51) (hts _ is_M) (hts _ in_CountedObjectsModel) hK hP hD hS hA rfl (fun j hj => by
    match j, hj with
    | 0, _ => rfl
    | 1, _ => rfl
    | 2, _ => rfl
    | 3, _ => rfl
    | 4, _ => rfl
    | 5, _ => rfl
    | 6, _ => rfl
    | 7, _ => rfl
    | 8, _ => rfl
    | 9, _ => rfl
    | 10, _ => rfl
    | 11, _ => rfl
    | 12, _ => rfl
    | 13, _ => rfl
    | 14, _ => rfl
    | 15, _ => rfl
    | 16, _ => rfl
    | 17, _ => rfl
    | n + 18, hj => exact absurd hj (by omega)) (by show 0 + 1 + 9 + 1 ≤ 601024; omega) (by show 0 + 8 + 2000 + 18 ≤ 7293000; omega) dL_law_18 (fun qm H hP hD hS => ?_)
  refine lv_dup hx hb dL_law_21 rfl ?_
  refine lv_aload_n hx hb dL_law_22 rfl (lv_at hl 1 rfl) ?_
  refine lv_iconst (v := nI 0) hx hb dL_law_23 (by decide) ?_
  refine gl_cell CF hX hbl hbA hS hl.1 (k := 0) (by decide) hL (Nat.le_of_ble_eq_true rfl) ⟨by omega, by omega⟩ dL_law_24 ?_
  refine lv_aload_n hx hb dL_law_27 rfl (lv_at hl 1 rfl) ?_
  refine lv_iconst (v := nI 1) hx hb dL_law_28 (by decide) ?_
  refine gl_cell CF hX hbl hbA hS hl.1 (k := 1) (by decide) hL (Nat.le_of_ble_eq_true rfl) ⟨by omega, by omega⟩ dL_law_29 ?_
  have hPc := hP.sub (ws' := [(qm, .inr (2, [.int 0, .int 0, .int 0, .null, .null, .null, .null, .null, .null, .int 0, .null, .null, .null, .int 0, .int 0, .null, .null, .null]))]) [10] rfl
  have hDc := hD.sub (ws' := [(qm, .inr (2, [.int 0, .int 0, .int 0, .null, .null, .null, .null, .null, .null, .int 0, .null, .null, .null, .int 0, .int 0, .null, .null, .null]))]) [10] (by decide) rfl
  have hFc := va_free (wc := [(qm, .inr (2, [.int 0, .int 0, .int 0, .null, .null, .null, .null, .null, .null, .int 0, .null, .null, .null, .int 0, .int 0, .null, .null, .null]))]) hD hS hA [10] rfl
  refine va_callv (va_runI (As := [.int (cellv Ln xs 0), .int (cellv Ln xs 1)]) (rest := [.ref qm]) CF (mt_M_init l dC dI cI cZ qm _ _ Wn En hW hE _ (hIni Wn En hWb.1 hWb.2 hEb.1 hEb.2) H.size) (cwI 2 hts (gx_good wsA_good (fun w hw => (List.mem_cons.mp hw).elim (fun e => e ▸ cd_M_init) id)) rfl rfl rfl (hts _ in_CountedObjectsModel) (hts _ ln_L_53) (hts _ im_M_init) rfl (by decide +kernel) ⟨Nat.le_of_ble_eq_true rfl, Nat.le_of_ble_eq_true rfl⟩) ⟨fun a U g mk q => by obtain ⟨q0, q1, qP, qK, qD⟩ := q; exact ⟨q0, q1, qP, va_K.moved (u := U) (U := U.calling g mk a) (Vm.Alike.refl U.vm) qK, qD⟩, fun U hU hW => ⟨rfl, by rw [hU], by rw [hU]; exact hPc, va_K.moved hW.alike hK, hDc.weaken (fun _ _ _ _ => trivial)⟩⟩ rfl rfl hl.1 rfl (lv_room (Nat.le_of_ble_eq_true rfl)) dL_law_32 ⟨by show 0 + 1 + 9 + 1 + 12 ≤ 601024; omega, by show 0 + 8 + 2000 + 18 + 2000 ≤ 7293000; omega⟩) hS (fun q _ h => hFc q h) hFc (fun u t H1 locs ht hvm h5 hB hz1 hk1 hS => ?_)
  obtain ⟨o', M⟩ := u
  obtain ⟨h5, hJ⟩ := h5
  obtain ⟨hP1, hK1, hD1⟩ := hB
  rw [ht] at hP1
  dsimp only at h5 hJ hP1 hD1
  subst h5
  obtain ⟨hP, hD⟩ := va_join (wr := xw cI cZ o Wn En (fl_row 1 (En + 1) (-1) (x0 Wn))) (w1 := mw cI cZ o' M) hP hD [10] [0, 1, 2, 3, 4, 5, 6, 7, 8, 9] rfl rfl (by decide) (by decide) hk1 hFc hP1 hD1
  generalize H1 = H at hP hS ⊢
  refine lv_astore_n (lv' := [(2, .ref (o' 0)), (1, .ref (o 0)), (0, .ref b)]) hx hb dL_law_35 rfl hl (by decide) rfl (fun ls hl => ?_)
  refine lv_iconst (v := 1) hx hb dL_law_36 (by decide) ?_
  refine va_newa (atype := .long) (N' := 1) (a0 := (1, .inr (.inl (fun _ => 0)))) (ty := .long) (n := 1) hx hb (hts _ ac_long) rfl hK3 hP hD hS hA (fun _ => rfl) (by decide) (by decide) (by decide) (by show 0 + 1 + 9 + 1 + 12 + 1 ≤ 601024; omega) (by show 0 + 8 + 2000 + 18 + 2000 + 1 ≤ 7293000; omega) dL_law_37 (fun oo cA H hK4 hP hD hS => ?_)
  have ec := cA_eq (fun C h => by cases h) hK4 (t0 := 2) rfl
  rw [ec, out0] at hP hD
  obtain ⟨S, hSe⟩ : ∃ S : GS, S = lcomb (fl_row 1 (En + 1) (-1) (x0 Wn)) M := ⟨_, rfl⟩
  have hP : va_P (dC, dI) gx_cl (lw cI cZ cL o o' oo Wn En S) H := by
    have hP2 := hP.sub (ws' := lw cI cZ cL o o' oo Wn En S) [0, 1, 2, 3, 4, 5, 6, 7, 8, 9, 10, 11, 12, 13, 14, 15, 16, 17, 18, 19, 20, 21, 22, 23] (by rw [hSe]; rfl)
    exact hP2
  have hD : va_D A (lw cI cZ cL o o' oo Wn En S) := by
    have hD2 := hD.sub (ws' := lw cI cZ cL o o' oo Wn En S) [0, 1, 2, 3, 4, 5, 6, 7, 8, 9, 10, 11, 12, 13, 14, 15, 16, 17, 18, 19, 20, 21, 22, 23] (by decide) (by rw [hSe]; rfl)
    exact hD2
  refine lv_astore_n (lv' := [(3, .ref oo), (2, .ref (o' 0)), (1, .ref (o 0)), (0, .ref b)]) hx hb dL_law_39 rfl hl (by decide) rfl (fun ls hl => ?_)
  refine lv_iconst (v := nI 2) hx hb dL_law_40 (by decide) ?_
  refine lv_istore (lv' := [(4, .int (nI 2)), (3, .ref oo), (2, .ref (o' 0)), (1, .ref (o 0)), (0, .ref b)]) hx hb dL_law_41 hl (by decide) rfl (fun ls hl => ?_)
  have hl := lv_sub hl (l' := [(4, .int (nI 2)), (0, .ref b), (1, .ref (o 0)), (2, .ref (o' 0)), (3, .ref oo)]) [0, 4, 3, 2, 1] rfl
  have hS2 := hSim Wn En hWb.1 hWb.2 hEb.1 hEb.2
  have hJ0 : JJ Wn En 0 S (lm S) := by
    rw [hSe, lm_comb]
    exact hS2.1 _ _ _ _ (lx_comb _ M) hJ
  have X : LC p l s m b Ln xs meth c dC dI cI cZ cL Wn En A (JJ Wn En) := ⟨⟨CF, hK3, hA, wsA_good⟩, hl9, hZ, hX, hbl, hbA, hS2, hL⟩
  refine W.widen (k := 30 + 0) (n := 6000 + 6 * 0) (by omega) (by omega) ?_
  exact law_loop X hr hlocks hA2 (Ln + 1) 0 2 S rfl (by omega) (by omega) hJ0 H locs ls hl hP hD hS
