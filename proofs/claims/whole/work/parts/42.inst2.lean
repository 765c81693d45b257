/-! instantiate, whole. -/
section IN2
variable {W E : Nat}
theorem enc_nm1 {r : Option Nat} (h : ∀ a, r = some a → a < 2 ^ 31) : (r = none ∧ enc r = -1 ∧ ¬ 0 ≤ enc r) ∨ (∃ a, r = some a ∧ enc r = nI a ∧ ¬ enc r = -1 ∧ 0 ≤ enc r) := by
  cases r with
  | none => exact Or.inl ⟨rfl, rfl, by decide⟩
  | some a => exact Or.inr ⟨a, rfl, rfl, nI_nm1 (h a rfl), nI_pos' (h a rfl)⟩
theorem pl_to.adr {rg : Nat → Int32} {D : PD} {n : Nat} {r : Option Nat} {D' : PD} (hn : 1 ≤ n) (hi : pinv W E rg D) (h : pl_to W n D r D') : ∀ a, r = some a → a < 2 ^ 31 := fun a ha => by
  have := ((h.inv hn hi).2.2 a ha).1
  have := hi.1
  omega
theorem two_mul {e : Nat} : (2 : Int32) * nI e = nI (2 * e) := pk_mul 2 e
set_option maxHeartbeats 4000000 in
theorem si_instantiate : sm_instantiate W E (JJ W E) := by
  intro n X M a ty nf hn hj PX PE hP hE1 hE2 hE3
  obtain ⟨rg, D, hi, hx, hm⟩ := hj
  have hb := hi.1
  have hJ : ∀ v, JJ W E (n + 1) X (gx_set 100 0 v M) := fun v => ⟨rg, D, hi, hx, (hm.thrown v).mono (by omega)⟩
  intro V hV
  refine hV 0 X _ (sx_isRegister (fun h => ⟨fun h2 => zero_ne h2, fun _ => hE1 X (fun PM hM V2 hV2 => ?_)⟩) (fun j hj h => ⟨fun _ => ?_, fun h2 => one_ne h2⟩))
  · refine hV2 0 M _ (sm_isRegister' (fun h => ⟨fun h2 => zero_ne h2, fun _ S1 e1 => ?_⟩) (fun j hj h2 => (reg_no hj h h2).elim))
    subst e1
    exact ⟨fun h2 => one_ne h2, fun _ => hM 0 _ rfl (hJ 1)⟩
  · subst h
    have hno : ∀ {P : Prop}, (nI j < 0 ∨ 8 ≤ nI j) → P := fun h => (reg_no hj h rfl).elim
    have h20 : ∀ (S1 : GS), S1 = gx_set 100 0 2 M → ∀ {P Q : Prop}, Q → (((S1 100 0) = 0 → P) ∧ (¬ (S1 100 0) = 0 → Q)) := fun S1 e1 P Q hQ => ⟨fun h2 => absurd (by rw [← h2, e1]; rfl : (2 : Int32) = 0) (by decide), fun _ => hQ⟩
    refine sx_isValue hi.pg hx (fun h => ⟨fun _ => hE2 X (fun PM hM V2 hV2 => ?_), fun h2 => zero_ne h2⟩) (fun hv => ⟨fun h2 => one_ne h2, fun _ => ⟨fun h3 => hE2 X (fun PM hM V2 hV2 => ?_), fun h3 => ⟨fun h4 => ?_, fun h4 => hE2 X (fun PM hM V2 hV2 => ?_)⟩⟩⟩)
    · refine hV2 0 M _ (sm_isRegister' hno (fun _ _ _ => ⟨fun _ => ?_, fun h2 => one_ne h2⟩))
      refine sm_isValue hi.pg hm (fun _ => ⟨fun _ S1 e1 => h20 S1 e1 (hM 0 _ (by rw [e1]; rfl) (by rw [e1]; exact hJ 2)), fun h2 => zero_ne h2⟩) (fun h2 => absurd h2 h)
    · refine hV2 0 M _ (sm_isRegister' hno (fun _ _ _ => ⟨fun _ => ?_, fun h2 => one_ne h2⟩))
      refine sm_isValue hi.pg hm (fun h2 => absurd hv h2) (fun _ => ⟨fun h2 => one_ne h2, fun _ => ⟨fun _ S1 e1 => h20 S1 e1 (hM 0 _ (by rw [e1]; rfl) (by rw [e1]; exact hJ 2)), fun h2 => absurd h3 h2⟩⟩)
    rotate_left
    · refine hV2 0 M _ (sm_isRegister' hno (fun _ _ _ => ⟨fun _ => ?_, fun h2 => one_ne h2⟩))
      refine sm_isValue hi.pg hm (fun h2 => absurd hv h2) (fun _ => ⟨fun h2 => one_ne h2, fun _ => ⟨fun h2 => absurd h2 h3, fun _ => ⟨fun h2 => absurd h2 h4, fun _ S1 e1 => h20 S1 e1 (hM 0 _ (by rw [e1]; rfl) (by rw [e1]; exact hJ 2))⟩⟩⟩)
    obtain ⟨f, hf, rfl⟩ := nI_of2 (x := nf) (M := 20) (n := 20) (by decide) h3 h4
    -- the reference up to where it looks for room
    have m47 : ∀ (PM : Int32 → GS → Prop) (V2 : Nat → GS → List Int32 → Prop), (∀ h S xs, sp_M_instantiate PM V2 h S xs → V2 h S xs) → (∀ S1, mk W E (2000 * (n + 1)) 0 rg D S1 → V2 47 S1 [nI j, ty, nI f]) → V2 0 M [nI j, ty, nI f] := fun PM V2 hV2 h47 => by
      refine hV2 0 M _ (sm_isRegister' hno (fun _ _ _ => ⟨fun _ => ?_, fun h2 => one_ne h2⟩))
      refine sm_isValue hi.pg hm (fun h2 => absurd hv h2) (fun _ => ⟨fun h2 => one_ne h2, fun _ => ⟨fun h2 => absurd h2 h3, fun _ => ⟨fun _ S1 e1 => ⟨fun _ => h47 S1 (by rw [e1]; exact mk.start hm 0), fun h2 => absurd (by rw [e1]; rfl) h2⟩, fun h2 => absurd h4 h2⟩⟩⟩)
    -- what follows when room was sought
    have fin : ∀ (Df : PD) (res : Option Nat) (S : GS), pinv W E rg Df → xr E rg Df S → pval E Df ty → (∀ a, res = some a → room W Df a (f + 2) ∧ ∃ k, 1 ≤ k ∧ k ≤ E ∧ Df.1 k = none) → (∀ (PM : Int32 → GS → Prop) (V2 : Nat → GS → List Int32 → Prop), (∀ h S xs, sp_M_instantiate PM V2 h S xs → V2 h S xs) → (∀ (S' : GS) (v4 : Int32), mk W E (2000 * (n + 1) + 802) 0 rg Df S' → V2 119 S' [nI j, ty, nI f, v4, enc res]) → V2 0 M [nI j, ty, nI f]) → wp_X_leastFreeEntry W E [] S (fun r8 S7 => ((enc res = (-1) → PE xE3 S7) ∧ (¬ enc res = (-1) → ((¬ r8 = 0 → wp_X_makeObject W E [r8, enc res, ty, nI f] S7 (fun S9 => wp_X_replaceRegister W E [nI j, 2 * r8] S9 (fun r12 S11 => PX (2 * r8) S11))) ∧ (r8 = 0 → PE xE3 S7))))) := by
      intro Df res S hif hxf hvf hroom hM119
      refine sx_least hif.pg hxf (fun e he => ?_)
      cases res with
      | none =>
        refine ⟨fun _ => hE3 S (fun PM hM V2 hV2 => ?_), fun h => absurd rfl h⟩
        refine hM119 PM V2 hV2 (fun S' v4 hm' => hV2 119 S' _ ⟨fun h => absurd h (show ¬ (0 : Int32) ≤ -1 by decide), fun _ S9 e9 => ?_⟩)
        subst e9
        exact hM 0 _ rfl (JJ.of (t := 3) hif hxf ⟨hm'.1, rfl⟩ (by omega))
      | some a =>
        obtain ⟨hro, k, k1, k2, k3⟩ := hroom a rfl
        have ha : a < 2 ^ 31 := by have := hro.1; omega
        refine ⟨fun h => absurd h (nI_nm1 ha), fun _ => ?_⟩
        obtain ⟨e1, e2, hde⟩ : 1 ≤ e ∧ e ≤ E ∧ Df.1 e = none := by
          rcases id he with ⟨-, h⟩ | ⟨h1, h2, h3, -⟩
          · obtain ⟨q, hq⟩ := h k k1 k2
            rw [hq] at k3; cases k3
          · exact ⟨h1, h2, h3⟩
        refine ⟨fun _ => ?_, fun h => absurd h (nI_ne0 (by omega) (by omega))⟩
        have him := make_inv hif hvf hro e1 e2 hde hf
        have hve : pval E (pu_make E Df e a f ty) (nI (2 * e)) := Or.inr (Or.inr ⟨e, (a, ty :: List.replicate f 0), e1, e2, rfl, va_up_self _ _ _⟩)
        have hc2 := pu_CI_reg hj (pu_add_CI (by omega) him.2.2.1 hve him.2.2.2.1)
        rw [two_mul]
        refine sx_make hif hxf hvf hro e1 e2 hde hf (fun S9 hx9 => ?_)
        refine sx_replaceRegister him.pg him.2.2.1 hx9 him.2.2.2.1 hve hj (fun X1 hX1 => hP _ X1 (fun PM hM V2 hV2 => ?_))
        refine hM119 PM V2 hV2 (fun S' v4 hm' => hV2 119 S' _ ⟨fun _ => ?_, fun h => absurd (nI_pos' ha) h⟩)
        refine sm_least hb.2.2.2 hm' (fun e' he' => ?_)
        have := he.uniq he'
        subst this
        have haW := hro.1
        refine ⟨vp_in_nI (by omega) (by decide), fun S3 q3 => ⟨vp_in_nI (by omega) (by decide), fun S4 q4 => ⟨vp_in_nI (by omega) (by decide), fun S5 q5 => ⟨vp_in_nI (by omega) (by decide), fun S6 q6 => ?_⟩⟩⟩⟩
        show vp_in (nI a + 1) 400 ∧ ∀ S7 : GS, S7 = gx_set 5 (nI a + 1).toNatClampNeg ty S6 → ∀ y8 : Int32, y8 = 0 → V2 183 S7 [nI j, ty, nI f, v4, nI a, nI e, y8]
        rw [nI_1, nI_clamp (by omega)]
        refine ⟨vp_in_nI (by omega) (by decide), fun S7 q7 y8 e8 => ?_⟩
        rw [nI_clamp (by omega)] at q3 q4 q5 q6
        subst e8
        have r5 : S7 5 = upd (S' 5) (a + 1) ty := by rw [q7, q6, q5, q4, q3]; rfl
        have r1 : S7 1 = upd (S' 1) e 1 := by rw [q7, q6, q5, q4, q3]; rfl
        have r2 : S7 2 = upd (S' 2) e (nI a) := by rw [q7, q6, q5, q4, q3]; rfl
        have r3 : S7 3 = upd (S' 3) e (nI f) := by rw [q7, q6, q5, q4, q3]; rfl
        have r4 : S7 4 = upd (S' 4) e 0 := by rw [q7, q6, q5, q4, q3]; rfl
        have ro : S7 0 = S' 0 ∧ S7 100 = S' 100 ∧ S7 6 = S' 6 ∧ S7 7 = S' 7 ∧ S7 8 = S' 8 := by rw [q7, q6, q5, q4, q3]; exact ⟨rfl, rfl, rfl, rfl, rfl⟩
        clear q3 q4 q5 q6 q7
        have hil : pg W E (va_up Df.1 e (some (a, ty :: List.replicate f 0)), va_up Df.2.1 e 0, Df.2.2) := him.pg
        have h7l : ∀ k, va_up Df.2.1 e 0 k ≤ 7 := fun k => by
          by_cases hke : k = e
          · subst hke; rw [va_up_self]; omega
          · rw [va_up_ne _ _ hke]; exact hif.2.2.1 k
        have loop : ∀ (m k : Nat) (S : GS), k + m = f → (∀ b, b ≠ 5 → S b = S7 b) → S 5 (a + 1) = ty → (∀ i, i < k → S 5 (a + 2 + i) = 0) → (∀ x, x < a ∨ a + (f + 2) ≤ x → S 5 x = S' 5 x) → V2 183 S [nI j, ty, nI f, v4, nI a, nI e, nI k] := by
          intro m
          induction m with
          | zero =>
            intro k S hk hb0 w1 w2 wo
            have : k = f := by omega
            subst this
            have hmk := mr.make (D := Df) (S' := S) (e := e) (a := a) (n := k) (ty := ty) hm'.1 hro hde ((hb0 0 (by decide)).trans ro.1) ((hb0 1 (by decide)).trans r1) ((hb0 2 (by decide)).trans r2) ((hb0 3 (by decide)).trans r3) ((hb0 4 (by decide)).trans r4) ((hb0 100 (by decide)).trans ro.2.1) ((hb0 6 (by decide)).trans ro.2.2.1) ((hb0 7 (by decide)).trans ro.2.2.2.1) ((hb0 8 (by decide)).trans ro.2.2.2.2) w1 w2 wo
            have hmk2 : mk W E (2000 * (n + 1) + 802) 0 rg (va_up Df.1 e (some (a, ty :: List.replicate k 0)), va_up Df.2.1 e 0, Df.2.2) S := ⟨hmk, by rw [hb0 100 (by decide), ro.2.1]; exact hm'.2⟩
            refine hV2 183 S _ ⟨fun _ => ?_, fun h => absurd (Int32.le_refl _) h⟩
            refine sm_addk hil h7l hmk2 hvf.pv (fun S1 hm1 => ?_)
            rw [make_add (by omega) hvf e1 e2 hde] at hm1
            refine ⟨vp_in_nI hj (by decide), fun y3 ey => ⟨vp_in_nI hj (by decide), fun S4 q4 => ?_⟩⟩
            rw [nI_clamp (by omega)] at ey q4
            rw [hm1.1.2.1 j hj] at ey
            subst ey
            rw [two_mul] at q4 ⊢
            subst q4
            refine sm_replace him.pg him.2.2.1 him.2.2.2.2.2 hve (hif.2.2.2.2.1 j hj) hc2 hm1.reg (fun S5 hS5 => hM _ hS5.2 ?_)
            exact JJ.of (pinv_drop (pu_add_pg him.pg) (pu_add_7 _ him.2.2.1) hc2 (pv_up hif.2.2.2.2.1 hve.pv) (by rw [pu_add_ob]; exact him.2.2.2.2.2)) hX1 hS5 (by omega)
          | succ m ih =>
            intro k S hk hb0 w1 w2 wo
            refine hV2 183 S _ ⟨fun h => absurd h (nI_ge (by omega) (by omega)), fun _ => ?_⟩
            rw [show (2 : Int32) = nI 2 from rfl, nI_add, nI_add, nI_clamp (by omega)]
            refine ⟨vp_in_nI (by omega) (by decide), fun S1' q1 y2 q2 => ?_⟩
            rw [nI_1] at q2; subst q2
            have t0 : S1' 5 = upd (S 5) (a + 2 + k) 0 := by rw [q1]; rfl
            refine ih (k + 1) S1' (by omega) (fun b hb1 => ?_) (by rw [t0, pk_un (by omega)]; exact w1) (fun i hik => ?_) (fun x hx => by rw [t0, pk_un (by omega)]; exact wo x hx)
            · rw [q1]
              show (if b = 5 then _ else S b) = S7 b
              rw [if_neg hb1]; exact hb0 b hb1
            · rw [t0]
              by_cases hjk : i = k
              · subst hjk; exact pk_us
              · rw [pk_un (by omega)]; exact w2 i (by omega)
        refine loop f 0 S7 (Nat.zero_add _) (fun _ _ => rfl) ?_ (fun i hik => absurd hik (Nat.not_lt_zero i)) (fun x hx => ?_)
        · rw [r5, pk_us]
        · rw [r5, pk_un (by omega)]
    have ef : nI f + 2 = nI (f + 2) := by rw [show (2 : Int32) = nI 2 from rfl, nI_add]
    rw [ef]
    have feq0 : ∀ {e : Nat}, fe E D.1 e → e ≤ E := fun {e} h => by
      rcases h with ⟨h, -⟩ | ⟨-, h, -⟩ <;> omega
    intro V3 hV3
    refine hV3 0 X _ (fun y1 ey1 => sx_least hi.pg hx (fun e he => ⟨fun hne => ?_, fun he0 => ?_⟩))
    · -- an entry is free
      have he0 : e ≠ 0 := fun z => hne (by rw [z]; rfl)
      obtain ⟨e1, e2, hde⟩ : 1 ≤ e ∧ e ≤ E ∧ D.1 e = none := by
        rcases id he with ⟨h, -⟩ | ⟨h1, h2, h3, -⟩
        · exact absurd h he0
        · exact ⟨h1, h2, h3⟩
      refine sx_place hi hx (by omega) (fun r D1 S1 hpl hx1 => ?_)
      obtain ⟨hi1, hs1, hr1⟩ := hpl.inv (by omega) hi
      have hadr := hpl.adr (by omega) hi
      have hde1 : D1.1 e = none := by
        have := hs1 e
        rw [hde] at this
        cases h : D1.1 e with
        | none => rfl
        | some q => rw [h] at this; cases this
      have hv1 : pval E D1 ty := hv.same hs1
      rcases enc_nm1 hadr with ⟨rfl, h1, h2⟩ | ⟨a, rfl, h1, h2, h3'⟩
      · refine ⟨fun h => absurd h1 h, fun _ => ⟨fun h => absurd ey1 h, fun _ => ?_⟩⟩
        obtain ⟨D2, g, hto⟩ := co_to.ex E rg ty D1
        have hi2 := hto.inv hi1
        have hv2 := hto.val hb.2.2.2 hv1
        have hde2 := hto.dead hde1
        refine sx_takeUnreached hi1 hx1 hto (fun S2 hx2 => sx_place hi2 hx2 (by omega) (fun r3 D3 S3 hpl3 hx3 => ?_))
        obtain ⟨hi3, hs3, hr3⟩ := hpl3.inv (by omega) hi2
        have hde3 : D3.1 e = none := by
          have := hs3 e
          rw [hde2] at this
          cases h : D3.1 e with
          | none => rfl
          | some q => rw [h] at this; cases this
        refine fin D3 r3 S3 hi3 hx3 (hv2.same hs3) (fun a ha => ⟨hr3 a ha, e, e1, e2, hde3⟩) (fun PM V2 hV2 h119 => m47 PM V2 hV2 (fun S4 hm4 => ?_))
        refine hV2 47 S4 _ (sm_least hb.2.2.2 hm4 (fun e' he' => ⟨fun _ y3 e3 => ⟨fun _ => ?_, fun h => absurd e3 h⟩, fun h => ?_⟩))
        · refine hV2 73 S4 _ (sm_least hb.2.2.2 hm4 (fun e'' he'' => ⟨fun _ => ?_, fun h => ?_⟩))
          · rw [ef]
            refine sm_place hi hm4 (by omega) (by omega) hpl (fun S5 hm5 => ⟨fun h => absurd h h2, fun _ => ⟨fun h => absurd e3 h, fun _ => ?_⟩⟩)
            refine sm_gather hi1 hm5 hv1 hto (fun S6 hm6 => sm_place hi2 hm6 (by omega) (by omega) hpl3 (fun S7 hm7 => h119 S7 _ (hm7.mono (by omega))))
          · have := he.uniq he''
            subst this
            exact absurd h hne
        · have := he.uniq he'
          subst this
          exact absurd h hne
      · refine ⟨fun _ => ?_, fun h => absurd h h2⟩
        refine fin D1 (some a) S1 hi1 hx1 hv1 (fun a ha => ⟨hr1 a ha, e, e1, e2, hde1⟩) (fun PM V2 hV2 h119 => m47 PM V2 hV2 (fun S4 hm4 => ?_))
        refine hV2 47 S4 _ (sm_least hb.2.2.2 hm4 (fun e' he' => ⟨fun _ y3 e3 => ⟨fun _ => ?_, fun h => absurd e3 h⟩, fun h => ?_⟩))
        · refine hV2 73 S4 _ (sm_least hb.2.2.2 hm4 (fun e'' he'' => ⟨fun _ => ?_, fun h => ?_⟩))
          · rw [ef]
            exact sm_place hi hm4 (by omega) (by omega) hpl (fun S5 hm5 => ⟨fun _ => h119 S5 _ (hm5.mono (by omega)), fun h => absurd h3' h⟩)
          · have := he.uniq he''
            subst this
            exact absurd h hne
        · have := he.uniq he'
          subst this
          exact absurd h hne
    · -- no entry is free
      have hle := feq0 he
      have he00 : e = 0 := (nI_eq (a := e) (b := 0) (by omega) (by decide)).mp he0
      subst he00
      obtain ⟨D1, g, hto⟩ := co_to.ex E rg ty D
      have hi1 := hto.inv hi
      have hv1 := hto.val hb.2.2.2 hv
      refine sx_takeUnreached hi hx hto (fun S1 hx1 y12 e12 => sx_least hi1.pg hx1 (fun e' he' => ⟨fun hne => ?_, fun hz => ?_⟩))
      · have he0' : e' ≠ 0 := fun z => hne (by rw [z]; rfl)
        obtain ⟨e1, e2, hde⟩ : 1 ≤ e' ∧ e' ≤ E ∧ D1.1 e' = none := by
          rcases id he' with ⟨h, -⟩ | ⟨h1, h2, h3, -⟩
          · exact absurd h he0'
          · exact ⟨h1, h2, h3⟩
        refine sx_place hi1 hx1 (by omega) (fun r D2 S2 hpl hx2 => ?_)
        obtain ⟨hi2, hs2, hr2⟩ := hpl.inv (by omega) hi1
        have hde2 : D2.1 e' = none := by
          have := hs2 e'
          rw [hde] at this
          cases h : D2.1 e' with
          | none => rfl
          | some q => rw [h] at this; cases this
        have hy : ¬ y12 = 0 := by rw [e12]; decide
        have hF := fin D2 r S2 hi2 hx2 (hv1.same hs2) (fun a ha => ⟨hr2 a ha, e', e1, e2, hde2⟩) (fun PM V2 hV2 h119 => m47 PM V2 hV2 (fun S4 hm4 => by
          refine hV2 47 S4 _ (sm_least hb.2.2.2 hm4 (fun x hx' => ⟨fun h => ?_, fun _ y6 e6 => ⟨fun h => by rw [e6] at h; exact one_ne h, fun _ => ?_⟩⟩))
          · have := he.uniq hx'
            subst this
            exact absurd rfl h
          · refine sm_gather hi hm4 hv hto (fun S5 hm5 => hV2 73 S5 _ (sm_least hb.2.2.2 hm5 (fun x hx'' => ⟨fun _ => ?_, fun h => ?_⟩)))
            · rw [ef]
              refine sm_place hi1 hm5 (by omega) (by omega) hpl (fun S6 hm6 => ⟨fun _ => h119 S6 _ (hm6.mono (by omega)), fun _ => ⟨fun _ => h119 S6 _ (hm6.mono (by omega)), fun h => by rw [e6] at h; exact one_ne h⟩⟩)
            · have := he'.uniq hx''
              subst this
              exact absurd h hne))
        exact ⟨fun _ => hF, fun _ => ⟨fun _ => hF, fun h => absurd h hy⟩⟩
      · have hle' : e' ≤ E := by
          rcases he' with ⟨h, -⟩ | ⟨-, h, -⟩ <;> omega
        have he00 : e' = 0 := (nI_eq (a := e') (b := 0) (by omega) (by decide)).mp hz
        subst he00
        refine fin D1 none S1 hi1 hx1 hv1 (fun a ha => by cases ha) (fun PM V2 hV2 h119 => m47 PM V2 hV2 (fun S4 hm4 => ?_))
        refine hV2 47 S4 _ (sm_least hb.2.2.2 hm4 (fun x hx' => ⟨fun h => ?_, fun _ y6 e6 => ⟨fun h => by rw [e6] at h; exact one_ne h, fun _ => ?_⟩⟩))
        · have := he.uniq hx'
          subst this
          exact absurd rfl h
        · refine sm_gather hi hm4 hv hto (fun S5 hm5 => hV2 73 S5 _ (sm_least hb.2.2.2 hm5 (fun x hx'' => ⟨fun h => ?_, fun _ y9 e9 => ?_⟩)))
          · have := he'.uniq hx''
            subst this
            exact absurd rfl h
          · subst e9
            exact ⟨fun h => absurd h (by decide), fun _ => ⟨fun _ => h119 S5 _ (hm5.mono (by omega)), fun h => by rw [e6] at h; exact one_ne h⟩⟩
theorem sim_all : ∀ Wn En, 16 ≤ Wn → Wn ≤ 400 → 2 ≤ En → En ≤ 40 → SIM Wn En (JJ Wn En) := fun _ _ _ _ _ _ =>
  ⟨fun _ _ _ _ h hj => JJ.rows h hj, si_instantiate, si_set, si_register, si_fetch, si_store, si_type, si_fields, si_become, si_collect, si_compact, si_exists, si_count, si_address, si_chunks, si_free, si_objects⟩
theorem sim_ini : ∀ Wn En, 16 ≤ Wn → Wn ≤ 400 → 2 ≤ En → En ≤ 40 → wp_M_give [0, nI Wn] (m0 Wn En) (fun M => JJ Wn En 0 (fl_row 1 (En + 1) (-1) (x0 Wn)) M) := by
  intro W E h1 h2 h3 h4
  have hm : mk W E 0 0 (fun _ => 0) ((fun _ => none), (fun _ => 0), []) (m0 W E) := ⟨⟨⟨rfl, rfl⟩, fun _ _ => rfl, fun _ _ _ _ => rfl, fun e q h => (by cases h), 0, [], [], Nat.zero_le _, rfl, rfl, fun i q h => (by cases h), List.Perm.refl _, List.Pairwise.nil, fun q h => (by cases h), rfl⟩, rfl⟩
  refine sm_give (a := 0) hm (by show 0 < 400; decide) (fun M hM _ _ => ?_)
  have hinv : pinv W E (fun _ => 0) ((fun _ => none), (fun _ => 0), [(0, W)]) := by
    have h0 : ∀ k, 1 ≤ k → k ≤ E → pu_refs E (fun _ => 0) (fun _ => none) (fun _ => false) k = 0 := fun k k1 k2 => by
      unfold pu_refs
      have ha : ((List.range 8).map (fun _ => (0 : Int32))).count (nI (2 * k)) = 0 := by
        refine List.count_eq_zero.mpr (fun hm => ?_)
        obtain ⟨r, -, hr⟩ := List.mem_map.mp hm
        exact nI_ne0 (n := 2 * k) (by omega) (by omega) hr.symm
      have hb : pu_sum (fun i => if (fun _ => false : Nat → Bool) i = true then 0 else (pu_ws (fun _ => none) i).count (nI (2 * k))) E = pu_sum (fun _ => 0) E := pu_sum_eq (fun i _ _ => rfl)
      rw [ha, hb, pu_sum_const, Nat.zero_mul]
    refine ⟨⟨h1, h2, h3, h4⟩, ⟨fun e o h => (by cases h), fun e e' o o' h => (by cases h), fun c hc => ?_, List.pairwise_singleton _ _, fun e o c h => (by cases h)⟩, fun _ => Nat.zero_le _, ⟨fun k _ _ h => (by cases h), fun k k1 k2 _ => h0 k k1 k2, fun i h => (by cases h)⟩, fun _ _ => Or.inl rfl, fun e q h => (by cases h)⟩
    rw [List.mem_singleton.mp hc]
    exact ⟨by show 1 ≤ W; omega, by show 0 + W ≤ W; omega⟩
  refine JJ.of (rg := fun _ => 0) (D := ((fun _ => none), (fun _ => 0), [(0, W)])) hinv ⟨fun _ _ => rfl, fun e e1 e2 _ => ?_, fun e q h => (by cases h), rfl, fun i c hc => ?_⟩ hM (by omega)
  · show (if e < E + 1 then (-1 : Int32) else _) = -1
    rw [if_pos (by omega)]
  · cases i with
    | zero => cases hc; exact ⟨rfl, rfl⟩
    | succ i => cases hc
end IN2
