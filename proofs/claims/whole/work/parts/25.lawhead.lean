/-! The law's loop, from its head. -/
theorem gl_table {p : Program} {l : Launch} {e : Env} {R : Room} {s : State} {m : MethodId} {args : Array Value} {below : List Frame} {meth : Method} {c : Code} {Q : State → Prop} {cc : ByteArray} {nL : Nat} {own : String} {Ts : List Cond} {D : va_G} {cl : List vw_C} {tys : List (ClassId × FieldType)} {A : Nat → Prop} {wd : GS → va_W} {nc ns : Nat} {S : GS} {pc : Nat} {L : List (Nat × Value)} {st : List Value} (C : GC p s m args c cc nL own Ts D cl tys A) {dflt lo hi off : Int} {offs : Array Int} {len : Nat} {x : Int32} (d : decode cc pc = .ok (.tableswitch dflt lo hi offs, len)) (tgt : Nat) (h1 : ¬ x.toInt < lo) (h2 : ¬ hi < x.toInt) (ho : offs[(x.toInt - lo).toNat]? = some off) (ht : (pc : Int) + off = (tgt : Int)) (k : GW nc ns p l e R s m args below meth c Q nL D cl A wd S tgt L st) : GW nc ns p l e R s m args below meth c Q nL D cl A wd S pc L (.int x :: st) :=
  fun H locs ls g1 g2 g3 g4 => lv_tableIn C.1.1 C.1.2.1 d h1 h2 ho ht (k H locs ls g1 g2 g3 g4)
theorem gl_isub4 {Ln i : Nat} (h1 : Ln ≤ 2050) (h2 : i ≤ 2060) : (nI Ln - 4 < nI i) ↔ Ln < i + 4 := by
  rw [Int32.lt_iff_toInt_lt, show (4 : Int32) = nI 4 from rfl, pk_sub_toInt (by omega) (by omega), nI_toInt (by omega)]
  omega
section LLC
variable {p : Program} {l : Launch} {e : Env} {s : State} {m : MethodId} {b Ln : Nat} {xs : Nat → Int32} {below : List Frame} {meth : Method} {c : Code} {dC : Nat → ClassId} {dI : Nat → Nat → Nat} {cI cZ cL : ClassId} {o o' : Nat → Nat} {oo W E : Nat} {A : Nat → Prop} {J : Nat → GS → GS → Prop}
set_option maxHeartbeats 4000000 in
set_option maxRecDepth 100000 in
theorem law_loop (X : LC p l s m b Ln xs meth c dC dI cI cZ cL W E A J) (hr : meth.sig.returnType = ret) (hlocks : meth.locks = false) (hA2 : ∀ q, A q → s.heap.size ≤ q) : ∀ (r n i : Nat) (S : GS), i = 2 + 4 * n → Ln - i < r → i ≤ 2054 → J n S (lm S) → GW (30 + n) (6000 + 6 * n) p l e room_1 s m #[Value.ref b] below meth c (lw_Z below #[Value.ref b] s) 7 (dC, dI) gx_cl A (lw cI cZ cL o o' oo W E) S 43 [(4, .int (nI i)), (0, .ref b), (1, .ref (o 0)), (2, .ref (o' 0)), (3, .ref oo)] [] := by
  intro r
  induction r with
  | zero => intro n i S _ h; omega
  | succ r ih =>
    intro n i S hi hr1 hb1 hJ
    obtain ⟨C, hl, hZ, hX, hbl, hbA, hSim, hLn⟩ := id X
    refine gx_iload C dL_law_43 0 rfl ?_
    refine gx_aload_n C dL_law_45 1 rfl rfl ?_
    refine gl_slen C hX hbl hbA dL_law_46 ?_
    refine gx_iconst (v := 4) C dL_law_47 (by decide) ?_
    refine gx_isub C dL_law_48 ?_
    refine gx_icmp_gt C dL_law_49 806 rfl (fun _ => ?_) (fun hc => ?_)
    · refine gx_iconst (v := 1) C dL_law_806 (by decide) ?_
      refine gl_widen (nc' := 601024) (ns' := 7293000) (by omega) (by omega) ?_
      intro H locs ls g1 g2 g3 g4
      refine va_forget (fun q hq => hA2 _ (g4.2.2 q hq)) ?_
      exact lw_ret C.1.1 C.1.2.1 hr hlocks dL_law_807
    · have hin : i + 3 < Ln := by
        have := mt (gl_isub4 (i := i) hLn (by omega)).mpr hc
        omega
      have ih2 : ∀ S' : GS, J (n + 1) S' (lm S') → GW (30 + (n + 1)) (6000 + 6 * (n + 1)) p l e room_1 s m #[Value.ref b] below meth c (lw_Z below #[Value.ref b] s) 7 (dC, dI) gx_cl A (lw cI cZ cL o o' oo W E) S' 43 [(4, .int (nI (i + 4))), (0, .ref b), (1, .ref (o 0)), (2, .ref (o' 0)), (3, .ref oo)] [] := fun S' h => ih (n + 1) (i + 4) S' (by omega) (by omega) (by omega) h
      refine gx_aload_n C dL_law_52 1 rfl rfl ?_
      refine gx_iload C dL_law_53 0 rfl ?_
      refine gl_sld C hX hbl hbA (j := i) (by omega) hLn dL_law_55 ?_
      refine gx_bipush (v := 15) C dL_law_56 (by decide) ?_
      refine gx_iand C dL_law_58 ?_
      obtain ⟨j, hj, ej⟩ := pk_andE (xs i) (m := 15) 4 (by decide)
      rw [ej]
      match j, hj with
      | 0, _ => exact gl_table C dL_law_59 136 (by decide) (by decide) rfl rfl (lc_instantiate X (by omega) hin S hJ ih2)
      | 1, _ => exact gl_table C dL_law_59 216 (by decide) (by decide) rfl rfl (lc_set X (by omega) hin S hJ ih2)
      | 2, _ => exact gl_table C dL_law_59 284 (by decide) (by decide) rfl rfl (lc_register X (by omega) hin S hJ ih2)
      | 3, _ => exact gl_table C dL_law_59 340 (by decide) (by decide) rfl rfl (lc_fetch X (by omega) hin S hJ ih2)
      | 4, _ => exact gl_table C dL_law_59 408 (by decide) (by decide) rfl rfl (lc_store X (by omega) hin S hJ ih2)
      | 5, _ => exact gl_table C dL_law_59 488 (by decide) (by decide) rfl rfl (lc_type X (by omega) hin S hJ ih2)
      | 6, _ => exact gl_table C dL_law_59 544 (by decide) (by decide) rfl rfl (lc_fields X (by omega) hin S hJ ih2)
      | 7, _ => exact gl_table C dL_law_59 600 (by decide) (by decide) rfl rfl (lc_become X (by omega) hin S hJ ih2)
      | 8, _ => exact gl_table C dL_law_59 648 (by decide) (by decide) rfl rfl (lc_collect X (by omega) hin S hJ ih2)
      | 9, _ => exact gl_table C dL_law_59 661 (by decide) (by decide) rfl rfl (lc_compact X (by omega) hin S hJ ih2)
      | 10, _ => exact gl_table C dL_law_59 674 (by decide) (by decide) rfl rfl (lc_exists X (by omega) hin S hJ ih2)
      | 11, _ => exact gl_table C dL_law_59 699 (by decide) (by decide) rfl rfl (lc_count X (by omega) hin S hJ ih2)
      | 12, _ => exact gl_table C dL_law_59 724 (by decide) (by decide) rfl rfl (lc_address X (by omega) hin S hJ ih2)
      | 13, _ => exact gl_table C dL_law_59 749 (by decide) (by decide) rfl rfl (lc_chunks X (by omega) hin S hJ ih2)
      | 14, _ => exact gl_table C dL_law_59 774 (by decide) (by decide) rfl rfl (lc_free X (by omega) hin S hJ ih2)
      | 15, _ => exact gl_table C dL_law_59 787 (by decide) (by decide) rfl rfl (lc_objects X (by omega) hin S hJ ih2)
      | j + 16, hj => exact absurd hj (by omega)
end LLC
