/-! A reference goes: the class's recursion and the reference's own stack. -/
section DROP
variable {W E : Nat} {rg : Nat → Int32}
theorem pu_geo.drop : ∀ (f : Nat) (D : PD) (v : Int32), pu_geo W E D.1 D.2.2 → pu_geo W E (pu_drop E f D v).1 (pu_drop E f D v).2.2 := by
  have hfree : ∀ (D : PD) (e : Nat), pu_geo W E D.1 D.2.2 → pu_geo W E (pu_free D e).1 (pu_free D e).2.2 := fun D e h => by
    cases hd : D.1 e with
    | none =>
      have : pu_free D e = D := by unfold pu_free; rw [hd]
      rw [this]; exact h
    | some q => rw [pu_free_some hd]; exact h.free hd
  intro f
  induction f with
  | zero =>
    intro D v h
    unfold pu_drop
    cases pu_ent E D.1 v with
    | none => exact h
    | some e =>
      dsimp only
      split
      · exact h
      · exact h
  | succ f ih =>
    intro D v h
    unfold pu_drop
    cases pu_ent E D.1 v with
    | none => exact h
    | some e =>
      dsimp only
      split
      · exact h
      · split
        · refine hfree _ e ?_
          generalize hD : ((D.1, va_up D.2.1 e 0, D.2.2) : PD) = D1
          have h1 : pu_geo W E D1.1 D1.2.2 := by rw [← hD]; exact h
          clear hD
          generalize pu_ws D.1 e = ws
          induction ws generalizing D1 with
          | nil => exact h1
          | cons w ws ihw => exact ihw _ (ih _ w h1)
        · exact h
theorem pg.drop {D : PD} (f : Nat) (v : Int32) (h : pg W E D) : pg W E (pu_drop E f D v) := ⟨h.1, h.2.drop f D v⟩
/-- one step of a drop, told by cases -/
theorem pu_drop_none {f : Nat} {D : PD} {v : Int32} (h : pu_ent E D.1 v = none) : pu_drop E f D v = D := by
  cases f <;> (unfold pu_drop; rw [h])
theorem pu_drop_full {f : Nat} {D : PD} {v : Int32} {e : Nat} (h : pu_ent E D.1 v = some e) (h7 : D.2.1 e = 7) : pu_drop E f D v = D := by
  cases f <;> (unfold pu_drop; rw [h]; dsimp only; rw [if_pos h7])
theorem pu_drop_less {f : Nat} {D : PD} {v : Int32} {e : Nat} (h : pu_ent E D.1 v = some e) (h7 : ¬ D.2.1 e = 7) (h1 : ¬ D.2.1 e = 1) : pu_drop E f D v = (D.1, va_up D.2.1 e (D.2.1 e - 1), D.2.2) := by
  cases f with
  | zero => unfold pu_drop; rw [h]; dsimp only; rw [if_neg h7]
  | succ f => unfold pu_drop; rw [h]; dsimp only; rw [if_neg h7, if_neg h1]
theorem pu_drop_last {f : Nat} {D : PD} {v : Int32} {e : Nat} (h : pu_ent E D.1 v = some e) (h1 : D.2.1 e = 1) : pu_drop E (f + 1) D v = pu_free ((pu_ws D.1 e).foldl (fun D w => pu_drop E f D w) (D.1, va_up D.2.1 e 0, D.2.2)) e := by
  rw [pu_drop, h]
  dsimp only
  rw [if_neg (by omega), if_pos h1]
theorem ws_some {ob : PB} {e : Nat} {q : PO} (h : ob e = some q) : pu_ws ob e = q.2 := by
  unfold pu_ws; rw [h]; rfl
/-- the class -/
theorem sx_drop : ∀ (f : Nat) (D : PD) (S : GS) (v : Int32) (x : Nat → Bool) (pend : List Int32) (d : Nat) (post : GS → Prop), 2 * f + 1 ≤ d → f ≤ 40 → pg W E D → (∀ e, D.2.1 e ≤ 7) → pu_CI E rg D x (v :: pend) → pu_pos E D ≤ f → xr E rg D S → (∀ S' : GS, xr E rg (pu_drop E f D v) S' → post S') → wp_X_dl W E d true [v, nI (40 - f)] S post := by
  intro f
  induction f with
  | zero =>
    intro D S v x pend d post hd hf hi h7 hc hpos hx hp
    obtain ⟨d, rfl⟩ : ∃ d', d = d' + 1 := ⟨d - 1, by omega⟩
    have hb := hi.1
    intro V hV
    rcases go_cases hi v with h | ⟨e, q, a, b, rfl, hde, he⟩
    · exact hV 0 S _ (go_x0 hi hx h ⟨fun _ => hp S (by rw [pu_drop_none h]; exact hx), fun h2 => zero_ne h2⟩)
    · have hs : (D.1 e).isSome = true := by rw [hde]; rfl
      have h7e : D.2.1 e = 7 := by
        rcases Classical.em (D.2.1 e = 7) with h | h
        · exact h
        · have hp0 := (pu_after_dec (by omega) a b hs hc h).2.1
          have := pu_pos_dec a b hs hp0
          omega
      refine hV 0 S _ (go_x1 hi hx a b hde ⟨fun h2 => one_ne h2, fun _ => ?_⟩)
      rw [nu_half (by omega), nI_clamp (by omega), (hx.2.2.1 e q hde).2.2.2, h7e]
      exact ⟨vp_in_nI (by omega) (by omega), fun h2 => absurd rfl h2, fun _ => hp S (by rw [pu_drop_full he h7e]; exact hx)⟩
  | succ f ih =>
    intro D S v x pend d post hd hf hi h7 hc hpos hx hp
    obtain ⟨d, rfl⟩ : ∃ d', d = d' + 1 + 1 := ⟨d - 2, by omega⟩
    have hb := hi.1
    intro V hV
    rcases go_cases hi v with h | ⟨e, q, a, b, rfl, hde, he⟩
    · exact hV 0 S _ (go_x0 hi hx h ⟨fun _ => hp S (by rw [pu_drop_none h]; exact hx), fun h2 => zero_ne h2⟩)
    · have hs : (D.1 e).isSome = true := by rw [hde]; rfl
      have h7e := h7 e
      refine hV 0 S _ (go_x1 hi hx a b hde ⟨fun h2 => one_ne h2, fun _ => ?_⟩)
      rw [nu_half (by omega), nI_clamp (by omega), (hx.2.2.1 e q hde).2.2.2]
      refine ⟨vp_in_nI (by omega) (by omega), fun h2 => ?_, fun h2 => ?_⟩
      · have hn7 : ¬ D.2.1 e = 7 := fun z => h2 (by rw [z]; rfl)
        obtain ⟨hd1, hp0, hxe⟩ := pu_after_dec (by omega) a b hs hc hn7
        refine ⟨vp_in_nI (by omega) (by omega), vp_in_nI (by omega) (by omega), fun S3 e3 => ⟨vp_in_nI (by omega) (by omega), ?_⟩⟩
        have e3' : S3 = gx_set 2 e (nI (D.2.1 e - 1)) S := by
          rw [e3, show (1 : Int32) = nI 1 from rfl, pk_sub hp0]
        have hx3 : xr E rg (D.1, va_up D.2.1 e (D.2.1 e - 1), D.2.2) S3 := by rw [e3']; exact hx.cnt e _
        have hS3 : S3 2 e = nI (D.2.1 e - 1) := by rw [e3']; exact pk_us
        rw [hS3]
        refine ⟨fun h3 => hp S3 ?_, fun h3 => ?_⟩
        · rw [pu_drop_less he hn7 (fun z => h3 (by rw [z]; rfl))]; exact hx3
        · have h1 : D.2.1 e = 1 := by
            have := (nI_eq (a := D.2.1 e - 1) (b := 0) (by omega) (by decide)).mp h3
            omega
          rw [h1] at hx3 hd1
          have hop := pu_open (D := (D.1, va_up D.2.1 e 0, D.2.2)) a b hs (va_up_self _ _ _) hxe hd1
          have hpd := pu_pos_dec (D := D) a b hs hp0
          have h7' : ∀ k, (va_up D.2.1 e 0) k ≤ 7 := fun k => by
            by_cases hk : k = e
            · subst hk; rw [va_up_self]; omega
            · rw [va_up_ne _ _ hk]; exact h7 k
          rw [pu_drop_last he h1] at hp
          have hg := hi.2.1 e q hde
          rw [ws_some hde] at hp hop
          -- the words, one after another
          have loop : ∀ (n k : Nat) (D1 : PD) (S1 : GS) (V1 : Nat → GS → List Int32 → Prop), (∀ h S xs, sp_X_letGo W E (wp_X_dl W E d true) post V1 h S xs → V1 h S xs) → k + n = q.2.length → pg W E D1 → (∀ k, D1.2.1 k ≤ 7) → D1.1 e = some q → pu_CI E rg D1 (va_up x e true) (q.2.drop k ++ pend) → pu_pos E D1 ≤ f → xr E rg D1 S1 → (∀ S' : GS, xr E rg (pu_free ((q.2.drop k).foldl (fun D w => pu_drop E f D w) D1) e) S' → post S') → V1 30 S1 [nI e, nI (40 - (f + 1)), nI (q.1 + (q.2.length + 1)), nI (q.1 + 1 + k)] := by
            intro n
            induction n with
            | zero =>
              intro k D1 S1 V1 hV1 hk hi1 h71 hd1 hc1 hp1 hx1 hpp
              refine hV1 30 S1 _ ⟨fun _ => ?_, fun h => absurd (nI_le (by omega) (by omega)) h⟩
              refine sx_freeEntry hi1 hx1 hd1 (fun S' hS' _ _ => hpp S' ?_)
              rw [List.drop_eq_nil_of_le (by omega)]
              exact hS'
            | succ n ihn =>
              intro k D1 S1 V1 hV1 hk hi1 h71 hd1 hc1 hp1 hx1 hpp
              obtain ⟨w, hw⟩ : ∃ w, q.2[k]? = some w := ⟨q.2[k]'(by omega), by rw [List.getElem?_eq_getElem]⟩
              have hdr : q.2.drop k = w :: q.2.drop (k + 1) := by
                rw [List.drop_eq_getElem_cons (by omega)]
                rw [List.getElem?_eq_getElem (by omega)] at hw
                cases hw; rfl
              have hw1 := (hx1.2.2.1 e q hd1).2.2.1 k w hw
              rw [hdr] at hc1 hpp
              refine hV1 30 S1 _ ⟨fun h => absurd h (nI_ge (by omega) (by omega)), fun _ => ⟨vp_in_nI (by omega) (by omega), ?_⟩⟩
              rw [nI_clamp (by omega), hw1, nI_1, show 40 - (f + 1) + 1 = 40 - f by omega]
              refine ih D1 S1 w (va_up x e true) (q.2.drop (k + 1) ++ pend) d _ (by omega) (by omega) hi1 h71 hc1 hp1 hx1 (fun S' hS' y5 e5 => ?_)
              have haf := pu_drop_after (by omega) f (va_up x e true) D1 w (q.2.drop (k + 1) ++ pend) hc1 hp1
              subst e5
              rw [nI_1, show q.1 + 1 + k + 1 = q.1 + 1 + (k + 1) by omega]
              exact ihn (k + 1) _ S' V1 hV1 (by omega) (hi1.drop f w) (fun j => Nat.le_trans (haf.2.1 j) (h71 j)) ((haf.2.2.1 e (va_up_self _ _ _)).trans hd1) haf.1 (Nat.le_trans haf.2.2.2.2 hp1) hS' hpp
          intro V1 hV1
          have hx1 := hx3.2.2.1 e q hde
          refine hV1 0 S3 _ ⟨fun _ => ⟨vp_in_nI (by omega) (by omega), sx_wordsOf (D := (D.1, va_up D.2.1 e 0, D.2.2)) hi hx3 hde (fun y3 e3 => ⟨vp_in_nI (by omega) (by omega), fun y4 e4 => ?_⟩)⟩, fun h => absurd (nI_lt (a := 40 - (f + 1)) (b := 40) (by omega) (by decide)) h⟩
          rw [nI_clamp (by omega), hx1.1, nI_add] at e3
          rw [nI_clamp (by omega), hx1.1, nI_1] at e4
          subst e3; subst e4
          exact loop q.2.length 0 (D.1, va_up D.2.1 e 0, D.2.2) S3 V1 hV1 (by omega) hi h7' hde hop (by omega) hx3 hp
      · have h7e : D.2.1 e = 7 := by
          have := (nI_eq (a := D.2.1 e) (b := 7) (by omega) (by decide)).mp h2
          exact this
        exact hp S (by rw [pu_drop_full he h7e]; exact hx)
/-- the reference -/
theorem sm_drop {z : Nat} {t : Int32} {v0 : Int32} {V : Nat → GS → List Int32 → Prop} {post : GS → Prop} (hV : ∀ h S xs, sp_M_leaves post V h S xs → V h S xs) : ∀ (f : Nat) (D : PD) (S : GS) (v : Int32) (x : Nat → Bool) (pend : List Int32) (g : Nat), g + f ≤ 40 → pg W E D → (∀ e, D.2.1 e ≤ 7) → (∀ (e : Nat) (q : PO), D.1 e = some q → ∀ w ∈ q.2, pv E w) → pv E v → pu_CI E rg D x (v :: pend) → pu_pos E D ≤ f → mk W E z t rg D S → S 100 5 = nI g → (∀ S' : GS, mk W E z t rg (pu_drop E f D v) S' → S' 100 5 = nI g → (∀ i, i < g → S' 9 i = S 9 i ∧ S' 10 i = S 10 i) → V 10 S' [v0]) → wp_M_less [v] S (fun S4 => V 10 S4 [v0]) := by
  intro f
  induction f with
  | zero =>
    intro D S v x pend g hgf hi h7 hw hv hc hpos hm hgo hp
    have hb := hi.1
    intro V1 hV1
    refine hV1 0 S _ (sm_leads (fun h => ⟨fun _ => hp S ?_ hgo (fun _ _ => ⟨rfl, rfl⟩), fun h2 => zero_ne h2⟩) (fun h h2 => ⟨fun h3 => one_ne h3, fun _ => ?_⟩))
    · have hn : pu_ent E D.1 v = none := by
        refine (pu_ent_none (by omega)).mpr (fun e a b c => ?_)
        subst c
        rcases h with h | h
        · exact absurd h (nI_ne0 (by omega) (by omega))
        · exact absurd (nu_even (by omega)) h
      rw [pu_drop_none hn]; exact hm
    · obtain ⟨e, a, b, rfl⟩ : ∃ e, 1 ≤ e ∧ e ≤ E ∧ v = nI (2 * e) := by
        rcases hv with h3 | h3 | h3
        · exact absurd h3 h
        · exact absurd h2 h3
        · exact h3
      obtain ⟨q, hde⟩ : ∃ q, D.1 e = some q := by
        cases hd : D.1 e with
        | none =>
          have := hc.2.1 e a b (by rw [hd]; rfl)
          rw [pu_cnt_eq] at this
          omega
        | some q => exact ⟨q, rfl⟩
      have he := ent_of hb.2.2.2 a b hde
      have hs : (D.1 e).isSome = true := by rw [hde]; rfl
      have h7e : D.2.1 e = 7 := by
        rcases Classical.em (D.2.1 e = 7) with h | h
        · exact h
        · have hp0 := (pu_after_dec (by omega) a b hs hc h).2.1
          have := pu_pos_dec a b hs hp0
          omega
      rw [nu_half (by omega), nI_clamp (by omega), (hm.1.2.2.2.1 e q hde).2.2.2.2, h7e]
      exact ⟨vp_in_nI (by omega) (by decide), fun _ => hp S (by rw [pu_drop_full he h7e]; exact hm) hgo (fun _ _ => ⟨rfl, rfl⟩), fun h2 => absurd (Int32.le_refl _) h2⟩
  | succ f ih =>
    intro D S v x pend g hgf hi h7 hw hv hc hpos hm hgo hp
    have hb := hi.1
    intro V1 hV1
    refine hV1 0 S _ (sm_leads (fun h => ⟨fun _ => hp S ?_ hgo (fun _ _ => ⟨rfl, rfl⟩), fun h2 => zero_ne h2⟩) (fun h h2 => ⟨fun h3 => one_ne h3, fun _ => ?_⟩))
    · have hn : pu_ent E D.1 v = none := by
        refine (pu_ent_none (by omega)).mpr (fun e a b c => ?_)
        subst c
        rcases h with h | h
        · exact absurd h (nI_ne0 (by omega) (by omega))
        · exact absurd (nu_even (by omega)) h
      rw [pu_drop_none hn]; exact hm
    · obtain ⟨e, a, b, rfl⟩ : ∃ e, 1 ≤ e ∧ e ≤ E ∧ v = nI (2 * e) := by
        rcases hv with h3 | h3 | h3
        · exact absurd h3 h
        · exact absurd h2 h3
        · exact h3
      obtain ⟨q, hde⟩ : ∃ q, D.1 e = some q := by
        cases hd : D.1 e with
        | none =>
          have := hc.2.1 e a b (by rw [hd]; rfl)
          rw [pu_cnt_eq] at this
          omega
        | some q => exact ⟨q, rfl⟩
      have he := ent_of hb.2.2.2 a b hde
      have hs : (D.1 e).isSome = true := by rw [hde]; rfl
      have h7e := h7 e
      rw [nu_half (by omega), nI_clamp (by omega), (hm.1.2.2.2.1 e q hde).2.2.2.2]
      refine ⟨vp_in_nI (by omega) (by decide), fun h2 => hp S ?_ hgo (fun _ _ => ⟨rfl, rfl⟩), fun h2 => ?_⟩
      · have h7e2 : D.2.1 e = 7 := by
          have := (nI_leI (a := 7) (b := D.2.1 e) (by decide) (by omega)).mp h2
          omega
        rw [pu_drop_full he h7e2]; exact hm
      · have hn7 : ¬ D.2.1 e = 7 := fun z => h2 (by rw [z]; exact Int32.le_refl _)
        obtain ⟨hd1, hp0, hxe⟩ := pu_after_dec (by omega) a b hs hc hn7
        refine ⟨vp_in_nI (by omega) (by decide), vp_in_nI (by omega) (by decide), fun S3 e3 => ⟨vp_in_nI (by omega) (by decide), ?_⟩⟩
        have e3' : S3 = gx_set 4 e (nI (D.2.1 e - 1)) S := by
          rw [e3, show (1 : Int32) = nI 1 from rfl, pk_sub hp0]
        have hm3 : mk W E z t rg (D.1, va_up D.2.1 e (D.2.1 e - 1), D.2.2) S3 := by rw [e3']; exact ⟨hm.1.cnt e _, hm.2⟩
        have hS3 : S3 4 e = nI (D.2.1 e - 1) := by rw [e3']; exact pk_us
        have hg3 : S3 100 5 = nI g := by rw [e3']; exact hgo
        have hr3 : ∀ i, S3 9 i = S 9 i ∧ S3 10 i = S 10 i := fun i => by rw [e3']; exact ⟨rfl, rfl⟩
        clear e3 e3'
        rw [hS3]
        refine ⟨fun h3 => hp S3 ?_ hg3 (fun i _ => hr3 i), fun h3 => ?_⟩
        · rw [pu_drop_less he hn7 (fun z => h3 (by rw [z]; rfl))]; exact hm3
        · have h1 : D.2.1 e = 1 := by
            have := (nI_eq (a := D.2.1 e - 1) (b := 0) (by omega) (by decide)).mp h3
            omega
          rw [h1] at hm3 hd1
          have hop := pu_open (D := (D.1, va_up D.2.1 e 0, D.2.2)) a b hs (va_up_self _ _ _) hxe hd1
          have hpd := pu_pos_dec (D := D) a b hs hp0
          have h7' : ∀ k, (va_up D.2.1 e 0) k ≤ 7 := fun k => by
            by_cases hk : k = e
            · subst hk; rw [va_up_self]; omega
            · rw [va_up_ne _ _ hk]; exact h7 k
          rw [pu_drop_last he h1] at hp
          have hg := hi.2.1 e q hde
          rw [ws_some hde] at hp hop
          have loop : ∀ (n k : Nat) (D1 : PD) (S1 : GS), k + n = q.2.length → pg W E D1 → (∀ k, D1.2.1 k ≤ 7) → (∀ (e : Nat) (q : PO), D1.1 e = some q → ∀ w ∈ q.2, pv E w) → D1.1 e = some q → pu_CI E rg D1 (va_up x e true) (q.2.drop k ++ pend) → pu_pos E D1 ≤ f → mk W E z t rg D1 S1 → S1 100 5 = nI (g + 1) → S1 9 g = nI e → S1 10 g = nI k → (∀ S' : GS, mk W E z t rg (pu_free ((q.2.drop k).foldl (fun D w => pu_drop E f D w) D1) e) S' → S' 100 5 = nI g → (∀ i, i < g → S' 9 i = S1 9 i ∧ S' 10 i = S1 10 i) → V 10 S' [v0]) → V 10 S1 [v0] := by
            intro n
            induction n with
            | zero =>
              intro k D1 S1 hk hi1 h71 hw1 hd1 hc1 hp1 hm1 hg1 h9 h10 hpp
              have hmq := hm1.1.2.2.2.1 e q hd1
              refine hV 10 S1 _ ⟨fun h => absurd h (by rw [hg1]; exact nI_nle (by omega) (by omega)), fun _ => ?_⟩
              rw [hg1, nI_pred, nI_clamp (by omega), h9, h10]
              refine ⟨vp_in_nI (by omega) (by decide), fun y1 e1 => ⟨vp_in_nI (by omega) (by decide), fun y2 e2 => ?_⟩⟩
              subst e1; subst e2
              rw [nI_clamp (by omega), hmq.2.2.1]
              refine ⟨vp_in_nI (by omega) (by decide), fun h => absurd ((nI_leI (by omega) (by omega)).mp h) (by omega), fun _ S6 e6 => ?_⟩
              subst e6
              refine sm_takeAway (S := gx_set 100 5 (nI g) S1) hi1 hm1 hd1 (fun S' hS' fr g5 => hpp S' ?_ g5 (fun i _ => ⟨by rw [fr 9 (by omega)]; rfl, by rw [fr 10 (by omega)]; rfl⟩))
              rw [List.drop_eq_nil_of_le (by omega)]
              exact hS'
            | succ n ihn =>
              intro k D1 S1 hk hi1 h71 hw1 hd1 hc1 hp1 hm1 hg1 h9 h10 hpp
              have hmq := hm1.1.2.2.2.1 e q hd1
              obtain ⟨w, hwk⟩ : ∃ w, q.2[k]? = some w := ⟨q.2[k]'(by omega), by rw [List.getElem?_eq_getElem]⟩
              have hdr : q.2.drop k = w :: q.2.drop (k + 1) := by
                rw [List.drop_eq_getElem_cons (by omega)]
                rw [List.getElem?_eq_getElem (by omega)] at hwk
                cases hwk; rfl
              have hwv := hmq.2.2.2.1 k w hwk
              rw [hdr] at hc1 hpp
              refine hV 10 S1 _ ⟨fun h => absurd h (by rw [hg1]; exact nI_nle (by omega) (by omega)), fun _ => ?_⟩
              rw [hg1, nI_pred, nI_clamp (by omega), h9, h10]
              refine ⟨vp_in_nI (by omega) (by decide), fun y1 e1 => ⟨vp_in_nI (by omega) (by decide), fun y2 e2 => ?_⟩⟩
              subst e1; subst e2
              rw [nI_clamp (by omega), hmq.2.2.1]
              refine ⟨vp_in_nI (by omega) (by decide), fun _ => ⟨vp_in_nI (by omega) (by decide), fun S4 e4 => ⟨vp_in_nI (by omega) (by decide), ?_⟩⟩, fun h => absurd (nI_le (by omega) (by omega)) h⟩
              rw [nI_1] at e4
              have hm4 : mk W E z t rg D1 S4 := by rw [e4]; exact hm1
              have f4 : S4 2 e = nI q.1 ∧ S4 5 (q.1 + 1 + k) = w ∧ S4 100 5 = nI (g + 1) ∧ S4 9 = S1 9 := by rw [e4]; exact ⟨hmq.2.1, hwv, hg1, rfl⟩
              have f10 : S4 10 = upd (S1 10) g (nI (k + 1)) := by rw [e4]; rfl
              clear e4
              rw [f4.1, nI_1, nI_add, nI_clamp (by omega), f4.2.1]
              have haf := pu_drop_after (by omega) f (va_up x e true) D1 w (q.2.drop (k + 1) ++ pend) hc1 hp1
              refine ⟨vp_in_nI (by omega) (by decide), ih D1 S4 w (va_up x e true) (q.2.drop (k + 1) ++ pend) (g + 1) (by omega) hi1 h71 hw1 (hw1 e q hd1 w (List.mem_of_getElem? hwk)) hc1 hp1 hm4 f4.2.2.1 (fun S' hS' g5 fr => ?_)⟩
              refine ihn (k + 1) _ S' (by omega) (hi1.drop f w) (fun j => Nat.le_trans (haf.2.1 j) (h71 j)) (fun e' q' hq' => ?_) ((haf.2.2.1 e (va_up_self _ _ _)).trans hd1) haf.1 (Nat.le_trans haf.2.2.2.2 hp1) hS' g5 ?_ ?_ (fun S'' h1 h2 h3 => hpp S'' h1 h2 (fun i hi2 => ?_))
              · rcases haf.2.2.2.1 e' with h | h
                · exact hw1 e' q' (by rw [← h]; exact hq')
                · rw [h] at hq'; cases hq'
              · rw [(fr g (by omega)).1, f4.2.2.2]; exact h9
              · rw [(fr g (by omega)).2, f10]; exact pk_us
              · obtain ⟨h4, h5⟩ := h3 i hi2
                obtain ⟨h6, h7⟩ := fr i (by omega)
                refine ⟨by rw [h4, h6, f4.2.2.2], ?_⟩
                rw [h5, h7, f10]
                exact pk_un (by omega)
          rw [hg3]
          refine ⟨vp_in_nI (by omega) (by decide), fun S4 e4 => ?_⟩
          rw [nI_clamp (by omega)] at e4
          have g4 : S4 100 5 = nI g := by rw [e4]; exact hg3
          rw [g4]
          refine ⟨vp_in_nI (by omega) (by decide), fun S5 e5 => ?_⟩
          rw [nI_clamp (by omega)] at e5
          have g5 : S5 100 5 = nI g := by rw [e5]; exact g4
          rw [g5]
          intro S6 e6
          rw [nI_1] at e6
          have hm6 : mk W E z t rg (D.1, va_up D.2.1 e 0, D.2.2) S6 := by rw [e6, e5, e4]; exact hm3
          have r9 : S6 9 = upd (S3 9) g (nI e) := by rw [e6, e5, e4]; rfl
          have r10 : S6 10 = upd (S3 10) g 0 := by rw [e6, e5, e4]; rfl
          have g6 : S6 100 5 = nI (g + 1) := by rw [e6]; rfl
          clear e4 e5 e6
          refine loop q.2.length 0 (D.1, va_up D.2.1 e 0, D.2.2) S6 (by omega) hi h7' hw hde hop (by omega) hm6 g6 (by rw [r9]; exact pk_us) (by rw [r10]; exact pk_us) (fun S' h1 h2 h3 => hp S' h1 h2 (fun i hi2 => ?_))
          obtain ⟨h4, h5⟩ := h3 i hi2
          obtain ⟨h6, h7⟩ := hr3 i
          refine ⟨?_, ?_⟩
          · rw [h4, r9, pk_un (by omega), h6]
          · rw [h5, r10, pk_un (by omega), h7]
theorem pu_pos_E (D : PD) : pu_pos E D ≤ E := by
  have := pu_sum_le (f := fun i => if (D.1 i).isSome = true ∧ 0 < D.2.1 i then 1 else 0) (g := fun _ => 1) (n := E) (fun i _ _ => by split <;> omega)
  rw [pu_sum_const] at this
  unfold pu_pos
  omega
theorem sx_dropReference {D : PD} {S : GS} {v : Int32} {post : GS → Prop} (hi : pg W E D) (h7 : ∀ e, D.2.1 e ≤ 7) (hc : pu_CI E rg D (fun _ => false) [v]) (hx : xr E rg D S) (hp : ∀ S' : GS, xr E rg (pu_drop E 40 D v) S' → post S') : wp_X_dl W E 90 true [v, 0] S post :=
  sx_drop 40 D S v _ [] 90 post (by decide) (by decide) hi h7 hc (Nat.le_trans (pu_pos_E D) hi.1.2.2.2) hx hp
theorem sm_leaves {z : Nat} {t : Int32} {D : PD} {S : GS} {v : Int32} {post : GS → Prop} (hi : pg W E D) (h7 : ∀ e, D.2.1 e ≤ 7) (hw : ∀ (e : Nat) (q : PO), D.1 e = some q → ∀ w ∈ q.2, pv E w) (hv : pv E v) (hc : pu_CI E rg D (fun _ => false) [v]) (hm : mk W E z t rg D S) (hp : ∀ S' : GS, mk W E z t rg (pu_drop E 40 D v) S' → post S') : wp_M_leaves [v] S post := by
  intro V hV
  refine hV 0 S [v] (fun S1 e1 => ?_)
  subst e1
  refine sm_drop (z := z) (t := t) hV 40 D (gx_set 100 5 0 S) v _ [] 0 (by decide) hi h7 hw hv hc (Nat.le_trans (pu_pos_E D) hi.1.2.2.2) hm rfl (fun S' h1 h2 _ => ?_)
  refine hV 10 S' [v] ⟨fun _ => hp S' h1, fun h => absurd (by rw [h2]; exact Int32.le_refl _) h⟩
end DROP
