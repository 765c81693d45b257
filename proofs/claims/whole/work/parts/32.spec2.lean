/-! The reading calls. -/
section SPX2
variable {W E : Nat} {rg : Nat → Int32} {D : PD} {S : GS}
theorem sx_obj0 (hi : pinv W E rg D) (hx : xr E rg D S) {v : Int32} {post : Int32 → GS → Prop} (h : pu_ent E D.1 v = none) (hp : post 0 S) : wp_X_isObject W E [v] S post :=
  sx_isObject hi hx (fun _ => hp) (fun e q a b c d => by subst c; rw [ent_of hi.1.2.2.2 a b d] at h; cases h)
theorem sx_obj1 (hi : pinv W E rg D) (hx : xr E rg D S) {e : Nat} {q : PO} {post : Int32 → GS → Prop} (h1 : 1 ≤ e) (h2 : e ≤ E) (hd : D.1 e = some q) (hp : post 1 S) : wp_X_isObject W E [nI (2 * e)] S post :=
  sx_isObject hi hx (fun h => by rw [ent_of hi.1.2.2.2 h1 h2 hd] at h; cases h) (fun _ _ _ _ _ _ => hp)
theorem sm_obj0 {k : Nat} (hi : pinv W E rg D) (hm : mr W E k rg D S) {v : Int32} {post : Int32 → GS → Prop} (h : pu_ent E D.1 v = none) (hp : post 0 S) : wp_M_isObject [v] S post :=
  sm_isObject hi hm (fun _ => hp) (fun e q a b c d => by subst c; rw [ent_of hi.1.2.2.2 a b d] at h; cases h)
theorem sm_obj1 {k : Nat} (hi : pinv W E rg D) (hm : mr W E k rg D S) {e : Nat} {q : PO} {post : Int32 → GS → Prop} (h1 : 1 ≤ e) (h2 : e ≤ E) (hd : D.1 e = some q) (hp : post 1 S) : wp_M_isObject [nI (2 * e)] S post :=
  sm_isObject hi hm (fun h => by rw [ent_of hi.1.2.2.2 h1 h2 hd] at h; cases h) (fun _ _ _ _ _ _ => hp)
theorem ent_cases (hi : pinv W E rg D) (v : Int32) : pu_ent E D.1 v = none ∨ ∃ (e : Nat) (q : PO), 1 ≤ e ∧ e ≤ E ∧ v = nI (2 * e) ∧ D.1 e = some q := by
  cases h : pu_ent E D.1 v with
  | none => exact Or.inl rfl
  | some e =>
    obtain ⟨a, b, c, d⟩ := (pu_ent_some (by have := hi.1; omega)).mp h
    obtain ⟨q, hq⟩ := Option.isSome_iff_exists.mp d
    exact Or.inr ⟨e, q, a, b, c, hq⟩
theorem one_ne {P : Prop} (h : (1 : Int32) = 0) : P := absurd h (by decide)
theorem zero_ne {P : Prop} (h : ¬ (0 : Int32) = 0) : P := absurd rfl h
theorem hf_x (hi : pinv W E rg D) (hx : xr E rg D S) {e : Nat} {q : PO} (h1 : 1 ≤ e) (h2 : e ≤ E) (hd : D.1 e = some q) {k : Int32} {post : Int32 → GS → Prop} (h0 : (k < 0 ∨ nI (q.2.length - 1) ≤ k) → post 0 S) (hj : ∀ j : Nat, j + 1 < q.2.length → k = nI j → post 1 S) : wp_X_hasField W E [nI (2 * e), k] S post := by
  have hb := hi.1
  have hg := hi.2.1.1 e q hd
  obtain ⟨x1, x2, x3, x4⟩ := hx.2.2.1 e q hd
  intro V hV
  refine hV 0 S _ ⟨fun h => h0 (Or.inl h), fun h => ?_⟩
  rw [nu_half (by omega), nI_clamp (by omega), x1, nI_clamp (by omega), x2]
  refine ⟨vp_in_nI (by omega) (by omega), vp_in_nI (by omega) (by omega), fun h3 => h0 (Or.inr h3), fun h3 => ?_⟩
  rcases pk_ix k (n := q.2.length - 1) (by omega) with h4 | h4 | ⟨j, h4, h5⟩
  · exact absurd h4 h
  · exact absurd h4 h3
  · exact hj j (by omega) h5
theorem hf_m {n : Nat} (hi : pinv W E rg D) (hm : mr W E n rg D S) {e : Nat} {q : PO} (h1 : 1 ≤ e) (h2 : e ≤ E) (hd : D.1 e = some q) {k : Int32} {post : Int32 → GS → Prop} (h0 : (k < 0 ∨ nI (q.2.length - 1) ≤ k) → post 0 S) (hj : ∀ j : Nat, j + 1 < q.2.length → k = nI j → post 1 S) : wp_M_hasField [nI (2 * e), k] S post := by
  have hb := hi.1
  have hg := hi.2.1.1 e q hd
  obtain ⟨x0, x1, x2, x3, x4⟩ := hm.2.2.2.1 e q hd
  intro V hV
  refine hV 0 S _ ⟨fun h => h0 (Or.inl h), fun h => ?_⟩
  rw [nu_half (by omega), nI_clamp (by omega), x2]
  refine ⟨vp_in_nI (by omega) (by omega), fun h3 => h0 (Or.inr h3), fun h3 => ?_⟩
  rcases pk_ix k (n := q.2.length - 1) (by omega) with h4 | h4 | ⟨j, h4, h5⟩
  · exact absurd h4 h
  · exact absurd h4 h3
  · exact hj j (by omega) h5
theorem hf_ne {q : PO} {k : Int32} {j : Nat} (hj : j + 1 < q.2.length) (hl : q.2.length ≤ 21) (hk : k = nI j) : ¬ (k < 0 ∨ nI (q.2.length - 1) ≤ k) := by
  subst hk
  rintro (h | h)
  · exact nI_pos (by omega) h
  · exact nI_ge (a := j) (b := q.2.length - 1) (by omega) (by omega) h
end SPX2
section SIM2
variable {W E : Nat}
theorem si_count : sm_count W E (JJ W E) := by
  intro n X M a _ hj PX hP
  obtain ⟨rg, D, hi, hx, hm⟩ := hj
  have hb := hi.1
  have hJ : ∀ v, JJ W E (n + 1) X (gx_set 100 0 v M) := fun v => ⟨rg, D, hi, hx, (hm.thrown v).mono (by omega)⟩
  intro V hV
  rcases ent_cases hi a with h | ⟨e, q, h1, h2, rfl, hd⟩
  · refine hV 0 X [a] (sx_obj0 hi hx h ⟨fun _ => hP 0 X (fun PM hM V2 hV2 => ?_), fun h => zero_ne h⟩)
    refine hV2 0 M [a] (fun S1 e1 => ?_)
    subst e1
    exact sm_obj0 hi (hm.thrown 0) h ⟨fun _ => hM _ (hJ 0), fun h => zero_ne h⟩
  · refine hV 0 X _ (sx_obj1 hi hx h1 h2 hd ⟨fun h => one_ne h, fun _ => ?_⟩)
    rw [nu_half (by omega), nI_clamp (by omega), (hx.2.2.1 e q hd).2.2.2]
    refine ⟨vp_in_nI (by omega) (by omega), hP _ X (fun PM hM V2 hV2 => ?_)⟩
    refine hV2 0 M _ (fun S1 e1 => ?_)
    subst e1
    refine sm_obj1 hi (hm.thrown 0) h1 h2 hd ⟨fun h => one_ne h, fun _ => ?_⟩
    rw [nu_half (by omega), nI_clamp (by omega), ((hm.thrown 0).2.2.2.1 e q hd).2.2.2.2]
    exact ⟨vp_in_nI (by omega) (by omega), hM _ (hJ 0)⟩
theorem si_address : sm_address W E (JJ W E) := by
  intro n X M a _ hj PX hP
  obtain ⟨rg, D, hi, hx, hm⟩ := hj
  have hb := hi.1
  have hJ : ∀ v, JJ W E (n + 1) X (gx_set 100 0 v M) := fun v => ⟨rg, D, hi, hx, (hm.thrown v).mono (by omega)⟩
  intro V hV
  rcases ent_cases hi a with h | ⟨e, q, h1, h2, rfl, hd⟩
  · refine hV 0 X [a] (sx_obj0 hi hx h ⟨fun _ => hP (-1) X (fun PM hM V2 hV2 => ?_), fun h => zero_ne h⟩)
    refine hV2 0 M [a] (fun S1 e1 => ?_)
    subst e1
    exact sm_obj0 hi (hm.thrown 0) h ⟨fun _ => hM _ (hJ 0), fun h => zero_ne h⟩
  · refine hV 0 X _ (sx_obj1 hi hx h1 h2 hd ⟨fun h => one_ne h, fun _ => ?_⟩)
    rw [nu_half (by omega), nI_clamp (by omega), (hx.2.2.1 e q hd).1]
    refine ⟨vp_in_nI (by omega) (by omega), hP _ X (fun PM hM V2 hV2 => ?_)⟩
    refine hV2 0 M _ (fun S1 e1 => ?_)
    subst e1
    refine sm_obj1 hi (hm.thrown 0) h1 h2 hd ⟨fun h => one_ne h, fun _ => ?_⟩
    rw [nu_half (by omega), nI_clamp (by omega), ((hm.thrown 0).2.2.2.1 e q hd).2.1]
    exact ⟨vp_in_nI (by omega) (by omega), hM _ (hJ 0)⟩
theorem si_register : sm_register W E (JJ W E) := by
  intro n X M a _ hj PX PE hP hE1
  obtain ⟨rg, D, hi, hx, hm⟩ := hj
  have hb := hi.1
  have hJ : ∀ v, JJ W E (n + 1) X (gx_set 100 0 v M) := fun v => ⟨rg, D, hi, hx, (hm.thrown v).mono (by omega)⟩
  intro V hV
  refine hV 0 X [a] (sx_isRegister (fun h => ⟨fun h2 => zero_ne h2, fun _ => hE1 X (fun PM hM V2 hV2 => ?_)⟩) (fun j hj h => ⟨fun _ => ?_, fun h2 => one_ne h2⟩))
  · refine hV2 0 M [a] (sm_isRegister' (fun h => ⟨fun _ S1 e1 => ?_, fun h2 => zero_ne h2⟩) (fun j hj h2 => ?_))
    · subst e1
      exact ⟨fun _ => hM 0 _ rfl (hJ 1), fun h2 => one_ne h2⟩
    · subst h2
      rcases h with h | h
      · exact absurd h (nI_pos (by omega))
      · exact absurd h (nI_ge (a := j) (b := 8) hj (by decide))
  · subst h
    rw [nI_clamp (by omega), hx.1 j hj]
    refine ⟨vp_in_nI hj (by decide), hP _ X (fun PM hM V2 hV2 => ?_)⟩
    refine hV2 0 M _ (sm_isRegister' (fun h => ?_) (fun i _ h2 => ⟨fun h3 => one_ne h3, fun _ S1 e1 => ?_⟩))
    · rcases h with h | h
      · exact absurd h (nI_pos (by omega))
      · exact absurd h (nI_ge (a := j) (b := 8) hj (by decide))
    · subst e1
      refine ⟨fun h => zero_ne h, fun _ => ⟨vp_in_nI hj (by decide), ?_⟩⟩
      rw [nI_clamp (by omega), (hm.thrown 0).2.1 j hj]
      exact hM _ rfl (hJ 0)
theorem si_type : sm_type W E (JJ W E) := by
  intro n X M a _ hj PX PE hP hE2
  obtain ⟨rg, D, hi, hx, hm⟩ := hj
  have hb := hi.1
  have hJ : ∀ v, JJ W E (n + 1) X (gx_set 100 0 v M) := fun v => ⟨rg, D, hi, hx, (hm.thrown v).mono (by omega)⟩
  intro V hV
  rcases ent_cases hi a with h | ⟨e, q, h1, h2, rfl, hd⟩
  · refine hV 0 X [a] (sx_obj0 hi hx h ⟨fun h => zero_ne h, fun _ => hE2 X (fun PM hM V2 hV2 => ?_)⟩)
    refine hV2 0 M [a] (sm_obj0 hi hm h ⟨fun _ S1 e1 => ?_, fun h => zero_ne h⟩)
    subst e1
    exact ⟨fun _ => hM 0 _ rfl (hJ 1), fun h2 => one_ne h2⟩
  · have hg := hi.2.1.1 e q hd
    obtain ⟨w, hw⟩ : ∃ w, q.2[0]? = some w := ⟨q.2[0]'(by omega), by rw [List.getElem?_eq_getElem]⟩
    refine hV 0 X _ (sx_obj1 hi hx h1 h2 hd ⟨fun _ => ?_, fun h => one_ne h⟩)
    have hxq := hx.2.2.1 e q hd
    rw [nu_half (by omega), nI_clamp (by omega), hxq.1, nI_1, nI_clamp (by omega), hxq.2.2.1 0 w hw]
    refine ⟨vp_in_nI (by omega) (by omega), vp_in_nI (by omega) (by omega), hP _ X (fun PM hM V2 hV2 => ?_)⟩
    refine hV2 0 M _ (sm_obj1 hi hm h1 h2 hd ⟨fun h => one_ne h, fun _ S1 e1 => ?_⟩)
    subst e1
    refine ⟨fun h => zero_ne h, fun _ => ?_⟩
    have hmq := (hm.thrown 0).2.2.2.1 e q hd
    rw [nu_half (by omega), nI_clamp (by omega), hmq.2.1, nI_1, nI_clamp (by omega), hmq.2.2.2.1 0 w hw]
    exact ⟨vp_in_nI (by omega) (by omega), vp_in_nI (by omega) (by omega), hM _ rfl (hJ 0)⟩
theorem si_fields : sm_fields W E (JJ W E) := by
  intro n X M a _ hj PX PE hP hE2
  obtain ⟨rg, D, hi, hx, hm⟩ := hj
  have hb := hi.1
  have hJ : ∀ v, JJ W E (n + 1) X (gx_set 100 0 v M) := fun v => ⟨rg, D, hi, hx, (hm.thrown v).mono (by omega)⟩
  intro V hV
  rcases ent_cases hi a with h | ⟨e, q, h1, h2, rfl, hd⟩
  · refine hV 0 X [a] (sx_obj0 hi hx h ⟨fun h => zero_ne h, fun _ => hE2 X (fun PM hM V2 hV2 => ?_)⟩)
    refine hV2 0 M [a] (sm_obj0 hi hm h ⟨fun _ S1 e1 => ?_, fun h => zero_ne h⟩)
    subst e1
    exact ⟨fun _ => hM 0 _ rfl (hJ 1), fun h2 => one_ne h2⟩
  · have hg := hi.2.1.1 e q hd
    refine hV 0 X _ (sx_obj1 hi hx h1 h2 hd ⟨fun _ => ?_, fun h => one_ne h⟩)
    have hxq := hx.2.2.1 e q hd
    rw [nu_half (by omega), nI_clamp (by omega), hxq.1, nI_clamp (by omega), hxq.2.1]
    refine ⟨vp_in_nI (by omega) (by omega), vp_in_nI (by omega) (by omega), hP _ X (fun PM hM V2 hV2 => ?_)⟩
    refine hV2 0 M _ (sm_obj1 hi hm h1 h2 hd ⟨fun h => one_ne h, fun _ S1 e1 => ?_⟩)
    subst e1
    refine ⟨fun h => zero_ne h, fun _ => ?_⟩
    have hmq := (hm.thrown 0).2.2.2.1 e q hd
    rw [nu_half (by omega), nI_clamp (by omega), hmq.2.2.1]
    exact ⟨vp_in_nI (by omega) (by omega), hM _ rfl (hJ 0)⟩
theorem si_fetch : sm_fetch W E (JJ W E) := by
  intro n X M a k _ hj PX PE hP hE2 hE1
  obtain ⟨rg, D, hi, hx, hm⟩ := hj
  have hb := hi.1
  have hJ : ∀ v, JJ W E (n + 1) X (gx_set 100 0 v M) := fun v => ⟨rg, D, hi, hx, (hm.thrown v).mono (by omega)⟩
  intro V hV
  rcases ent_cases hi a with h | ⟨e, q, h1, h2, rfl, hd⟩
  · refine hV 0 X [a, k] (sx_obj0 hi hx h ⟨fun h => zero_ne h, fun _ => hE2 X (fun PM hM V2 hV2 => ?_)⟩)
    refine hV2 0 M [a, k] (sm_obj0 hi hm h ⟨fun h => zero_ne h, fun _ S1 e1 => ?_⟩)
    subst e1
    exact ⟨fun _ => hM 0 _ rfl (hJ 1), fun h2 => one_ne h2⟩
  · have hg := hi.2.1.1 e q hd
    refine hV 0 X _ (sx_obj1 hi hx h1 h2 hd ⟨fun _ => ?_, fun h => one_ne h⟩)
    refine hf_x hi hx h1 h2 hd (fun h => ⟨fun h => zero_ne h, fun _ => hE1 X (fun PM hM V2 hV2 => ?_)⟩) (fun j hj hk => ⟨fun _ => ?_, fun h => one_ne h⟩)
    · refine hV2 0 M _ (sm_obj1 hi hm h1 h2 hd ⟨fun _ => ?_, fun h => one_ne h⟩)
      refine hf_m hi hm h1 h2 hd (fun _ => ⟨fun h => zero_ne h, fun _ S1 e1 => ?_⟩) (fun j hj hk => absurd h (hf_ne hj hg.2.2.2.1 hk))
      subst e1
      exact ⟨fun _ => hM 0 _ rfl (hJ 2), fun h2 => absurd (show (2 : Int32) = 0 from h2) (by decide)⟩
    · subst hk
      obtain ⟨w, hw⟩ : ∃ w, q.2[j + 1]? = some w := ⟨q.2[j + 1]'(by omega), by rw [List.getElem?_eq_getElem]⟩
      have hxq := hx.2.2.1 e q hd
      intro V3 hV3
      have e2 : nI q.1 + 2 + nI j = nI (q.1 + 1 + (j + 1)) := by
        rw [show (2 : Int32) = nI 2 from rfl, nI_add, nI_add]; congr 1; omega
      refine hV3 0 X _ ⟨?_, ?_, ?_⟩
      · rw [nu_half (by omega)]; exact vp_in_nI (by omega) (by omega)
      · rw [nu_half (by omega), nI_clamp (by omega), hxq.1, e2]; exact vp_in_nI (by omega) (by omega)
      rw [nu_half (by omega), nI_clamp (by omega), hxq.1, e2, nI_clamp (by omega), hxq.2.2.1 (j + 1) w hw]
      refine hP _ X (fun PM hM V2 hV2 => ?_)
      refine hV2 0 M _ (sm_obj1 hi hm h1 h2 hd ⟨fun _ => ?_, fun h => one_ne h⟩)
      refine hf_m hi hm h1 h2 hd (fun h => absurd h (hf_ne hj hg.2.2.2.1 rfl)) (fun i hi2 hk => ⟨fun _ S1 e1 => ?_, fun h => one_ne h⟩)
      subst e1
      refine ⟨fun h => zero_ne h, fun _ => ?_⟩
      have hmq := (hm.thrown 0).2.2.2.1 e q hd
      rw [nu_half (by omega), nI_clamp (by omega), hmq.2.1, e2, nI_clamp (by omega), hmq.2.2.2.1 (j + 1) w hw]
      exact ⟨vp_in_nI (by omega) (by omega), vp_in_nI (by omega) (by omega), hM _ rfl (hJ 0)⟩
end SIM2
