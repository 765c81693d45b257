/-! Values, counts that rise, chunks that come, objects that go: on both sides. -/
section SPX3
variable {W E : Nat} {rg : Nat → Int32} {D : PD} {S : GS}
theorem go_x0 (hi : pg W E D) (hx : xr E rg D S) {v : Int32} {post : Int32 → GS → Prop} (h : pu_ent E D.1 v = none) (hp : post 0 S) : wp_X_isObject W E [v] S post :=
  sx_isObject' hi hx (fun _ => hp) (fun e q a b c d => by subst c; rw [ent_of hi.1.2.2.2 a b d] at h; cases h)
theorem go_x1 (hi : pg W E D) (hx : xr E rg D S) {e : Nat} {q : PO} {post : Int32 → GS → Prop} (h1 : 1 ≤ e) (h2 : e ≤ E) (hd : D.1 e = some q) (hp : post 1 S) : wp_X_isObject W E [nI (2 * e)] S post :=
  sx_isObject' hi hx (fun h => by rw [ent_of hi.1.2.2.2 h1 h2 hd] at h; cases h) (fun _ _ _ _ _ _ => hp)
theorem go_cases (hi : pg W E D) (v : Int32) : pu_ent E D.1 v = none ∨ ∃ (e : Nat) (q : PO), 1 ≤ e ∧ e ≤ E ∧ v = nI (2 * e) ∧ D.1 e = some q ∧ pu_ent E D.1 v = some e := by
  cases h : pu_ent E D.1 v with
  | none => exact Or.inl rfl
  | some e =>
    obtain ⟨a, b, c, d⟩ := (pu_ent_some (by have := hi.1; omega)).mp h
    obtain ⟨q, hq⟩ := Option.isSome_iff_exists.mp d
    exact Or.inr ⟨e, q, a, b, c, hq, rfl⟩
/-- a value: nothing, odd, or a live object's number -/
def pval (E : Nat) (D : PD) (v : Int32) : Prop := v = 0 ∨ ¬ v &&& 1 = 0 ∨ ∃ (e : Nat) (q : PO), 1 ≤ e ∧ e ≤ E ∧ v = nI (2 * e) ∧ D.1 e = some q
theorem pval.pv {v : Int32} (h : pval E D v) : pv E v := by
  rcases h with h | h | ⟨e, q, a, b, c, -⟩
  · exact Or.inl h
  · exact Or.inr (Or.inl h)
  · exact Or.inr (Or.inr ⟨e, a, b, c⟩)
theorem sx_isValue (hi : pg W E D) (hx : xr E rg D S) {v : Int32} {post : Int32 → GS → Prop} (h0 : ¬ pval E D v → post 0 S) (h1 : pval E D v → post 1 S) : wp_X_isValue W E [v] S post := by
  intro V hV
  refine hV 0 S [v] ⟨fun h => h1 (Or.inl h), fun h => ⟨fun h2 => h1 (Or.inr (Or.inl (mt (nu_par v).mpr h2))), fun h2 => ?_⟩⟩
  have h2' := (nu_par v).mp h2
  refine sx_isObject' hi hx (fun h3 => ⟨fun _ => h0 ?_, fun h4 => zero_ne h4⟩) (fun e q a b c d => ⟨fun h4 => one_ne h4, fun _ => h1 (Or.inr (Or.inr ⟨e, q, a, b, c, d⟩))⟩)
  rintro (h4 | h4 | ⟨e, q, a, b, c, d⟩)
  · exact h h4
  · exact h4 h2'
  · subst c; rw [ent_of hi.1.2.2.2 a b d] at h3; cases h3
theorem sm_isValue {k : Nat} (hi : pg W E D) (hm : mr W E k rg D S) {v : Int32} {post : Int32 → GS → Prop} (h0 : ¬ pval E D v → post 0 S) (h1 : pval E D v → post 1 S) : wp_M_isValue [v] S post := by
  intro V hV
  refine hV 0 S [v] (sm_leads (fun h => ⟨fun _ => h1 ?_, fun h4 => zero_ne h4⟩) (fun h h2 => ⟨fun h4 => one_ne h4, fun _ => ?_⟩))
  · rcases h with h | h
    · exact Or.inl h
    · exact Or.inr (Or.inl h)
  · refine sm_isObject' hi hm (fun h3 => ⟨fun _ => h0 ?_, fun h4 => zero_ne h4⟩) (fun e q a b c d => ⟨fun h4 => one_ne h4, fun _ => h1 (Or.inr (Or.inr ⟨e, q, a, b, c, d⟩))⟩)
    rintro (h4 | h4 | ⟨e, q, a, b, c, d⟩)
    · exact h h4
    · exact h4 h2
    · subst c; rw [ent_of hi.1.2.2.2 a b d] at h3; cases h3
theorem xr.cnt (hx : xr E rg D S) (e n : Nat) : xr E rg (D.1, va_up D.2.1 e n, D.2.2) (gx_set 2 e (nI n) S) := by
  obtain ⟨h1, h2, h3, h4, h5⟩ := hx
  refine ⟨h1, h2, fun k q hk => ?_, h4, h5⟩
  obtain ⟨a, b, c, d⟩ := h3 k q hk
  refine ⟨a, b, c, ?_⟩
  show upd (S 2) e (nI n) k = nI (va_up D.2.1 e n k)
  by_cases hke : k = e
  · subst hke; rw [pk_us, va_up_self]
  · rw [pk_un hke, va_up_ne _ _ hke]; exact d
theorem mr.cnt {z : Nat} (hm : mr W E z rg D S) (e n : Nat) : mr W E z rg (D.1, va_up D.2.1 e n, D.2.2) (gx_set 4 e (nI n) S) := by
  obtain ⟨h0, h1, h2, h3, h4⟩ := hm
  refine ⟨h0, h1, h2, fun k q hk => ?_, h4⟩
  obtain ⟨a, b, c, d, f⟩ := h3 k q hk
  refine ⟨a, b, c, d, ?_⟩
  show upd (S 4) e (nI n) k = nI (va_up D.2.1 e n k)
  by_cases hke : k = e
  · subst hke; rw [pk_us, va_up_self]
  · rw [pk_un hke, va_up_ne _ _ hke]; exact f
theorem mr.cntd {z : Nat} (hm : mr W E z rg D S) {e : Nat} (hd : D.1 e = none) (v : Int32) : mr W E z rg D (gx_set 4 e v S) := by
  obtain ⟨h0, h1, h2, h3, h4⟩ := hm
  refine ⟨h0, h1, h2, fun k q hk => ?_, h4⟩
  obtain ⟨a, b, c, d, f⟩ := h3 k q hk
  refine ⟨a, b, c, d, ?_⟩
  show upd (S 4) e v k = nI (D.2.1 k)
  have hke : k ≠ e := fun z => by rw [z, hd] at hk; cases hk
  rw [pk_un hke]; exact f
/-- counts of what isn't there are nothing -/
theorem xr.counts (hx : xr E rg D S) {c : Nat → Nat} (h : ∀ (e : Nat) (q : PO), D.1 e = some q → D.2.1 e = c e) : xr E rg (D.1, c, D.2.2) S := by
  obtain ⟨h1, h2, h3, h4, h5⟩ := hx
  refine ⟨h1, h2, fun k q hk => ?_, h4, h5⟩
  obtain ⟨a, b, c1, d⟩ := h3 k q hk
  exact ⟨a, b, c1, by rw [d]; exact congrArg nI (h k q hk)⟩
theorem mr.counts {z : Nat} (hm : mr W E z rg D S) {c : Nat → Nat} (h : ∀ (e : Nat) (q : PO), D.1 e = some q → D.2.1 e = c e) : mr W E z rg (D.1, c, D.2.2) S := by
  obtain ⟨h0, h1, h2, h3, h4⟩ := hm
  refine ⟨h0, h1, h2, fun k q hk => ?_, h4⟩
  obtain ⟨a, b, c1, d, f⟩ := h3 k q hk
  exact ⟨a, b, c1, d, by rw [f]; exact congrArg nI (h k q hk)⟩
/-- a reference comes -/
def pu_add (E : Nat) (D : PD) (v : Int32) : PD := match pu_ent E D.1 v with
  | none => D
  | some e => if D.2.1 e < 7 then (D.1, va_up D.2.1 e (D.2.1 e + 1), D.2.2) else D
theorem pu_add_none {v : Int32} (h : pu_ent E D.1 v = none) : pu_add E D v = D := by
  unfold pu_add; rw [h]
theorem pu_add_some {v : Int32} {e : Nat} (h : pu_ent E D.1 v = some e) : pu_add E D v = if D.2.1 e < 7 then (D.1, va_up D.2.1 e (D.2.1 e + 1), D.2.2) else D := by
  unfold pu_add; rw [h]
theorem pu_add_ob (v : Int32) : (pu_add E D v).1 = D.1 := by
  unfold pu_add
  split
  · rfl
  · split <;> rfl
theorem pu_add_fr (v : Int32) : (pu_add E D v).2.2 = D.2.2 := by
  unfold pu_add
  split
  · rfl
  · split <;> rfl
theorem pu_add_7 (v : Int32) (h : ∀ e, D.2.1 e ≤ 7) : ∀ e, (pu_add E D v).2.1 e ≤ 7 := by
  intro k
  unfold pu_add
  split
  · exact h k
  · rename_i e _
    split
    · show va_up D.2.1 e (D.2.1 e + 1) k ≤ 7
      by_cases hk : k = e
      · subst hk; rw [va_up_self]; omega
      · rw [va_up_ne _ _ hk]; exact h k
    · exact h k
theorem pu_add_pg {v : Int32} (h : pg W E D) : pg W E (pu_add E D v) := by
  refine ⟨h.1, ?_⟩
  rw [pu_add_ob, pu_add_fr]
  exact h.2
theorem sx_add (hi : pg W E D) (h7 : ∀ e, D.2.1 e ≤ 7) (hx : xr E rg D S) {v : Int32} {post : GS → Prop} (hp : ∀ S' : GS, xr E rg (pu_add E D v) S' → (∀ k, k ≠ 2 → S' k = S k) → post S') : wp_X_addReference W E [v] S post := by
  have hb := hi.1
  intro V hV
  rcases go_cases hi v with h | ⟨e, q, a, b, rfl, hd, he⟩
  · exact hV 0 S [v] (go_x0 hi hx h ⟨fun _ => hp S (by rw [pu_add_none h]; exact hx) (fun _ _ => rfl), fun h2 => zero_ne h2⟩)
  · refine hV 0 S _ (go_x1 hi hx a b hd ⟨fun h2 => one_ne h2, fun _ => ?_⟩)
    have hc := (hx.2.2.1 e q hd).2.2.2
    have h7e := h7 e
    rw [nu_half (by omega), nI_clamp (by omega), hc]
    refine ⟨vp_in_nI (by omega) (by omega), fun h2 => hp S ?_ (fun _ _ => rfl), fun h2 => ⟨vp_in_nI (by omega) (by omega), vp_in_nI (by omega) (by omega), fun S3 e3 => hp S3 ?_ (fun k hk => ?_)⟩⟩
    · have := (nI_leI (a := 7) (by decide) (by omega)).mp h2
      rw [pu_add_some he, if_neg (by omega)]; exact hx
    · have := mt (nI_leI (a := 7) (b := D.2.1 e) (by decide) (by omega)).mpr h2
      subst e3
      rw [pu_add_some he, if_pos (by omega), nI_1]
      exact hx.cnt e _
    · subst e3
      show (if k = 2 then _ else S k) = S k
      rw [if_neg hk]
theorem sm_add {z : Nat} (hi : pg W E D) (h7 : ∀ e, D.2.1 e ≤ 7) (hm : mr W E z rg D S) {v : Int32} (hv : pv E v) {post : GS → Prop} (hp : ∀ S' : GS, mr W E z rg (pu_add E D v) S' → (∀ k, k ≠ 4 → S' k = S k) → post S') : wp_M_comes [v] S post := by
  have hb := hi.1
  intro V hV
  have hfr : ∀ (i : Nat) (x : Int32) (k : Nat), k ≠ 4 → gx_set 4 i x S k = S k := fun i x k hk => by
    show (if k = 4 then _ else S k) = S k
    rw [if_neg hk]
  refine hV 0 S [v] (sm_leads (fun h => ⟨fun _ => hp S ?_ (fun _ _ => rfl), fun h2 => zero_ne h2⟩) (fun h h2 => ⟨fun h3 => one_ne h3, fun _ => ?_⟩))
  · have hn : pu_ent E D.1 v = none := by
      refine (pu_ent_none (by omega)).mpr (fun e a b c => ?_)
      subst c
      rcases h with h | h
      · exact absurd h (nI_ne0 (by omega) (by omega))
      · exact absurd (nu_even (by omega)) h
    rw [pu_add_none hn]; exact hm
  · obtain ⟨e, a, b, rfl⟩ : ∃ e, 1 ≤ e ∧ e ≤ E ∧ v = nI (2 * e) := by
      rcases hv with h3 | h3 | h3
      · exact absurd h3 h
      · exact absurd h2 h3
      · exact h3
    rw [nu_half (by omega), nI_clamp (by omega)]
    refine ⟨vp_in_nI (by omega) (by decide), ?_⟩
    cases hd : D.1 e with
    | none =>
      have hn : pu_ent E D.1 (nI (2 * e)) = none := by
        refine (pu_ent_none (by omega)).mpr (fun k c1 c2 c3 => ?_)
        have : e = k := by have := (nI_eq (by omega) (by omega)).mp c3; omega
        subst this
        rw [hd]; rfl
      refine ⟨fun _ => hp S ?_ (fun _ _ => rfl), fun _ => ⟨vp_in_nI (by omega) (by decide), vp_in_nI (by omega) (by decide), fun S3 e3 => hp S3 ?_ (fun k hk => ?_)⟩⟩
      · rw [pu_add_none hn]; exact hm
      · subst e3; rw [pu_add_none hn]; exact hm.cntd hd _
      · subst e3; exact hfr _ _ k hk
    | some q =>
      have he := ent_of hb.2.2.2 a b hd
      have h7e := h7 e
      rw [(hm.2.2.2.1 e q hd).2.2.2.2]
      refine ⟨fun h2 => hp S ?_ (fun _ _ => rfl), fun h2 => ⟨vp_in_nI (by omega) (by decide), vp_in_nI (by omega) (by decide), fun S3 e3 => hp S3 ?_ (fun k hk => ?_)⟩⟩
      · have := (nI_leI (a := 7) (by decide) (by omega)).mp h2
        rw [pu_add_some he, if_neg (by omega)]; exact hm
      · have := mt (nI_leI (a := 7) (b := D.2.1 e) (by decide) (by omega)).mpr h2
        subst e3
        rw [pu_add_some he, if_pos (by omega), nI_1]
        exact hm.cnt e _
      · subst e3; exact hfr _ _ k hk
theorem pu_free_some {e : Nat} {q : PO} (h : D.1 e = some q) : pu_free D e = (va_up D.1 e none, D.2.1, D.2.2 ++ [(q.1, q.2.length + 1)]) := by
  unfold pu_free; rw [h]
theorem pg.free {e : Nat} {q : PO} (hi : pg W E D) (h : D.1 e = some q) : pg W E (pu_free D e) := by
  rw [pu_free_some h]
  exact ⟨hi.1, hi.2.free h⟩
/-- a chunk comes -/
theorem sf_add (hx : xr E rg D S) (hl : D.2.2.length < W) (hW : W ≤ 400) {a n : Nat} {post : GS → Prop} (hp : ∀ S' : GS, xr E rg (D.1, D.2.1, D.2.2 ++ [(a, n)]) S' → (∀ k, k < 6 → S' k = S k) → S' 100 1 = S 100 1 → post S') : wp_F_add W E [nI a, nI n] S post := by
  intro V hV
  obtain ⟨h1, h2, h3, h4, h5⟩ := hx
  refine hV 0 S _ ⟨by rw [h4]; exact vp_in_nI hl (by omega), fun S1 e1 => ?_⟩
  subst e1
  refine ⟨by show vp_in (S 100 0) W; rw [h4]; exact vp_in_nI hl (by omega), fun S2 e2 => ?_⟩
  subst e2
  intro S3 e3
  subst e3
  refine hp _ ⟨h1, h2, h3, ?_, ?_⟩ (fun k hk => ?_) rfl
  · show S 100 0 + 1 = nI (D.2.2 ++ [(a, n)]).length
    rw [h4, nI_1, List.length_append]; rfl
  · show ch_rep (upd (S 6) (S 100 0).toNatClampNeg (nI a)) (upd (S 7) (S 100 0).toNatClampNeg (nI n)) _
    rw [h4, nI_clamp (by omega)]
    exact h5.add
  · show (if k = 100 then _ else if k = 7 then _ else if k = 6 then _ else S k) = S k
    rw [if_neg (by omega), if_neg (by omega), if_neg (by omega)]
theorem xr.gone (hx : xr E rg D S) (e : Nat) : xr E rg (va_up D.1 e none, D.2.1, D.2.2) (gx_set 1 e (-1) S) := by
  obtain ⟨h1, h2, h3, h4, h5⟩ := hx
  refine ⟨h1, fun k k1 k2 hk => ?_, fun k q hk => ?_, h4, h5⟩
  · show upd (S 1) e (-1) k = -1
    by_cases hke : k = e
    · subst hke; rw [pk_us]
    · rw [pk_un hke]; exact h2 k k1 k2 (by rw [← hk]; exact (va_up_ne _ _ hke).symm)
  · have hke : k ≠ e := fun z => by
      subst z
      have hk2 : va_up D.1 k none k = some q := hk
      rw [va_up_self] at hk2; cases hk2
    obtain ⟨a, b, c, d⟩ := h3 k q (by rw [← hk]; exact (va_up_ne _ _ hke).symm)
    exact ⟨(pk_un hke).trans a, b, c, d⟩
theorem sx_wordsOf (hi : pg W E D) (hx : xr E rg D S) {e : Nat} {q : PO} (hd : D.1 e = some q) {post : Int32 → GS → Prop} (hp : post (nI (q.2.length + 1)) S) : wp_X_wordsOf W E [nI e] S post := by
  have hb := hi.1
  have hg := hi.2.1 e q hd
  obtain ⟨x1, x2, x3, x4⟩ := hx.2.2.1 e q hd
  intro V hV
  refine hV 0 S _ ⟨vp_in_nI (by omega) (by omega), ?_, ?_⟩
  · rw [nI_clamp (by omega), x1]; exact vp_in_nI (by omega) (by omega)
  · rw [nI_clamp (by omega), x1, nI_clamp (by omega), x2, show (2 : Int32) = nI 2 from rfl, nI_add, show q.2.length - 1 + 2 = q.2.length + 1 by omega]
    exact hp
theorem sx_freeEntry (hi : pg W E D) (hx : xr E rg D S) {e : Nat} {q : PO} (hd : D.1 e = some q) {post : GS → Prop} (hp : ∀ S' : GS, xr E rg (pu_free D e) S' → (∀ k, k = 0 ∨ (2 ≤ k ∧ k < 6) → S' k = S k) → S' 100 1 = S 100 1 → post S') : wp_X_freeEntry W E [nI e] S post := by
  have hb := hi.1
  have hg := hi.2.1 e q hd
  have hx1 := (hx.2.2.1 e q hd).1
  intro V hV
  refine hV 0 S _ ⟨vp_in_nI (by omega) (by omega), sx_wordsOf hi hx hd ?_⟩
  rw [nI_clamp (by omega), hx1]
  refine sf_add hx (hi.2.len1 hd) hb.2.1 (fun S3 h3 f3 g3 => ⟨vp_in_nI (by omega) (by omega), fun S5 e5 => ?_⟩)
  subst e5
  refine hp _ ?_ (fun k hk => ?_) g3
  · rw [pu_free_some hd]
    exact h3.gone e
  · show (if k = 1 then _ else S3 k) = S k
    rw [if_neg (by omega)]
    exact f3 k (by omega)
/-- the reference's contents, with its clock bound by the chunks, and its 'thrown' -/
def mk (W E k : Nat) (t : Int32) (rg : Nat → Int32) (D : PD) (S : GS) : Prop := mr W E (k + D.2.2.length) rg D S ∧ S 100 0 = t
theorem mr.gone {z : Nat} (hm : mr W E z rg D S) (e : Nat) : mr W E z rg (va_up D.1 e none, D.2.1, D.2.2) (gx_set 1 e 0 S) := by
  obtain ⟨h0, h1, h2, h3, h4⟩ := hm
  refine ⟨h0, h1, fun k k1 k2 hk => ?_, fun k q hk => ?_, h4⟩
  · show upd (S 1) e 0 k = 0
    by_cases hke : k = e
    · subst hke; rw [pk_us]
    · rw [pk_un hke]; exact h2 k k1 k2 (by rw [← hk]; exact (va_up_ne _ _ hke).symm)
  · have hke : k ≠ e := fun z => by
      subst z
      have hk2 : va_up D.1 k none k = some q := hk
      rw [va_up_self] at hk2; cases hk2
    obtain ⟨a, b, c, d, f⟩ := h3 k q (by rw [← hk]; exact (va_up_ne _ _ hke).symm)
    exact ⟨(pk_un hke).trans a, b, c, d, f⟩
theorem pe_get {α : Type} {P : List α} {x : α} {i : Nat} {q : α} (h : (P ++ [x])[i]? = some q) : (i < P.length ∧ P[i]? = some q) ∨ (i = P.length ∧ x = q) := by
  by_cases hi : i < P.length
  · rw [List.getElem?_append_left hi] at h
    exact Or.inl ⟨hi, h⟩
  · have hl : i < (P ++ [x]).length := (List.getElem?_eq_some_iff.mp h).1
    have hi' : i = P.length := by simp at hl; omega
    subst hi'
    rw [List.getElem?_append_right (Nat.le_refl _), Nat.sub_self] at h
    cases h
    exact Or.inr ⟨rfl, rfl⟩
theorem sm_give {k : Nat} {t : Int32} (hm : mk W E k t rg D S) (hl : D.2.2.length < 400) {a n : Nat} {post : GS → Prop} (hp : ∀ S' : GS, mk W E k t rg (D.1, D.2.1, D.2.2 ++ [(a, n)]) S' → (∀ j, j < 6 ∨ (9 ≤ j ∧ j < 100) → S' j = S j) → S' 100 5 = S 100 5 → post S') : wp_M_give [nI a, nI n] S post := by
  intro V hV
  obtain ⟨⟨h0, h1, h2, h3, c, P, Z, m1, m2, m3, m4, m5, m6, m7, m8⟩, ht⟩ := hm
  have hPl : P.length = D.2.2.length := by rw [m5.length_eq, ← m8, List.length_map]
  have hvp : vp_in (S 100 3) 400 := by rw [m3]; exact vp_in_nI (by omega) (by decide)
  refine hV 0 S _ ⟨hvp, fun S1 e1 => ?_⟩
  subst e1
  refine ⟨hvp, fun S2 e2 => ?_⟩
  subst e2
  refine ⟨hvp, fun S3 e3 => ?_⟩
  subst e3
  intro S4 e4
  subst e4
  intro S5 e5
  subst e5
  refine hp _ ⟨⟨h0, h1, h2, h3, c + 1, P ++ [(a, n, c)], Z ++ [(a, n, c)], ?_, ?_, ?_, fun i q hq => ?_, ?_, ?_, fun q hq => ?_, ?_⟩, ht⟩ (fun j hj => ?_) rfl
  · show c + 1 ≤ k + (D.2.2 ++ [(a, n)]).length
    rw [List.length_append]
    show c + 1 ≤ k + (D.2.2.length + 1)
    omega
  · show S 100 4 + 1 = nI (c + 1)
    rw [m2, nI_1]
  · show S 100 3 + 1 = nI (P ++ [(a, n, c)]).length
    rw [m3, nI_1, List.length_append]; rfl
  · show upd (S 6) (S 100 3).toNatClampNeg (nI a) i = nI q.1 ∧ upd (S 7) (S 100 3).toNatClampNeg (nI n) i = nI q.2.1 ∧ upd (S 8) (S 100 3).toNatClampNeg (S 100 4) i = nI q.2.2
    rw [m3, nI_clamp (by omega), m2]
    rcases pe_get hq with ⟨hi, hq2⟩ | ⟨hi, hq2⟩
    · rw [pk_un (by omega), pk_un (by omega), pk_un (by omega)]
      exact m4 i q hq2
    · subst hi; subst hq2
      rw [pk_us, pk_us, pk_us]
      exact ⟨rfl, rfl, rfl⟩
  · exact m5.append_right _
  · rw [List.pairwise_append]
    refine ⟨m6, List.pairwise_singleton _ _, fun x hx y hy => ?_⟩
    rw [List.mem_singleton.mp hy]
    exact m7 x hx
  · rcases List.mem_append.mp hq with hq | hq
    · have := m7 q hq; omega
    · rw [List.mem_singleton.mp hq]; exact Nat.lt_succ_self c
  · show (Z ++ [(a, n, c)]).map (fun q => (q.1, q.2.1)) = D.2.2 ++ [(a, n)]
    rw [List.map_append, m8]; rfl
  · show (if j = 100 then _ else if j = 100 then _ else if j = 8 then _ else if j = 7 then _ else if j = 6 then _ else S j) = S j
    rw [if_neg (by omega), if_neg (by omega), if_neg (by omega), if_neg (by omega), if_neg (by omega)]
theorem sm_takeAway {k : Nat} {t : Int32} (hi : pg W E D) (hm : mk W E k t rg D S) {e : Nat} {q : PO} (hd : D.1 e = some q) {post : GS → Prop} (hp : ∀ S' : GS, mk W E k t rg (pu_free D e) S' → (∀ j, j = 0 ∨ (2 ≤ j ∧ j < 6) ∨ (9 ≤ j ∧ j < 100) → S' j = S j) → S' 100 5 = S 100 5 → post S') : wp_M_takeAway [nI e] S post := by
  have hb := hi.1
  have hg := hi.2.1 e q hd
  obtain ⟨x0, x1, x2, x3, x4⟩ := hm.1.2.2.2.1 e q hd
  have hl := hi.2.len1 hd
  intro V hV
  refine hV 0 S _ ⟨vp_in_nI (by omega) (by decide), fun S1 e1 => ⟨vp_in_nI (by omega) (by decide), vp_in_nI (by omega) (by decide), ?_⟩⟩
  rw [nI_clamp (by omega)] at e1 ⊢
  subst e1
  rw [show gx_set 1 e 0 S 2 e = S 2 e from rfl, show gx_set 1 e 0 S 3 e = S 3 e from rfl, x1, x2, show (2 : Int32) = nI 2 from rfl, nI_add, show q.2.length - 1 + 2 = q.2.length + 1 by omega]
  refine sm_give (D := (va_up D.1 e none, D.2.1, D.2.2)) ⟨hm.1.gone e, hm.2⟩ (by show D.2.2.length < 400; omega) (fun S2 h2 f2 g2 => hp S2 ?_ (fun j hj => ?_) g2)
  · rw [pu_free_some hd]; exact h2
  · rw [f2 j (by omega)]
    show (if j = 1 then _ else S j) = S j
    rw [if_neg (by omega)]
end SPX3
