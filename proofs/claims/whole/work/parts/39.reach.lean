/-! What is reached: the class's row of entries, the reference's rounds. -/
section RE
variable {W E : Nat} {rg : Nat → Int32} {D : PD} {S : GS}
def re_root (E : Nat) (rg : Nat → Int32) (ob : PB) (also : Int32) (e : Nat) : Prop := (∃ r, r < 8 ∧ pu_ent E ob (rg r) = some e) ∨ pu_ent E ob also = some e
def re_set (E : Nat) (rg : Nat → Int32) (ob : PB) (also : Int32) (e : Nat) : Prop := ∀ P : Nat → Prop, (∀ e, re_root E rg ob also e → P e) → (∀ (e e' : Nat) (w : Int32), P e → w ∈ pu_ws ob e → pu_ent E ob w = some e' → P e') → P e
theorem re_set.root {also : Int32} {e : Nat} (h : re_root E rg D.1 also e) : re_set E rg D.1 also e := fun P h1 _ => h1 e h
theorem re_set.next {also w : Int32} {e e' : Nat} (h : re_set E rg D.1 also e) (hw : w ∈ pu_ws D.1 e) (he : pu_ent E D.1 w = some e') : re_set E rg D.1 also e' := fun P h1 h2 => h2 e e' w (h P h1 h2) hw he
theorem re_set.live {also : Int32} {e : Nat} (hE : E < 2 ^ 29) (h : re_set E rg D.1 also e) : 1 ≤ e ∧ e ≤ E ∧ ∃ q, D.1 e = some q := by
  refine h (fun e => 1 ≤ e ∧ e ≤ E ∧ ∃ q, D.1 e = some q) (fun e he => ?_) (fun e e' w _ _ he => ?_)
  · rcases he with ⟨r, _, he⟩ | he
    · obtain ⟨a, b, c, d⟩ := (pu_ent_some hE).mp he
      exact ⟨a, b, Option.isSome_iff_exists.mp d⟩
    · obtain ⟨a, b, c, d⟩ := (pu_ent_some hE).mp he
      exact ⟨a, b, Option.isSome_iff_exists.mp d⟩
  · obtain ⟨a, b, c, d⟩ := (pu_ent_some hE).mp he
    exact ⟨a, b, Option.isSome_iff_exists.mp d⟩
/-- the class's row of what is reached so far -/
def fx (E : Nat) (R : Nat → Prop) (L : List Nat) (S : GS) : Prop := (∀ e, 1 ≤ e → e ≤ E → (S 4 e = 0 ↔ ¬ e ∈ L)) ∧ S 100 1 = nI L.length ∧ (∀ i e, L[i]? = some e → S 5 i = nI e) ∧ L.Nodup ∧ (∀ e ∈ L, R e ∧ 1 ≤ e ∧ e ≤ E)
theorem fx.len {R : Nat → Prop} {L : List Nat} (h : fx E R L S) : L.length ≤ E := by
  have hn : (0 :: L).Nodup := List.nodup_cons.mpr ⟨fun h0 => by have := (h.2.2.2.2 0 h0).2.1; omega, h.2.2.2.1⟩
  have := ge_len (E + 1) (0 :: L) hn (fun a ha => by
    rcases List.mem_cons.mp ha with rfl | ha
    · omega
    · have := (h.2.2.2.2 a ha).2.2; omega)
  rw [List.length_cons] at this
  omega
theorem sx_reach {R : Nat → Prop} {L : List Nat} {v : Int32} {post : GS → Prop} (hi : pg W E D) (hx : xr E rg D S) (hf : fx E R L S) (hR : ∀ e, pu_ent E D.1 v = some e → R e) (hp : ∀ (S' : GS) (l : List Nat), xr E rg D S' → fx E R (L ++ l) S' → (∀ e, pu_ent E D.1 v = some e → e ∈ L ++ l) → post S') : wp_X_reach W E [v] S post := by
  have hb := hi.1
  intro V hV
  rcases go_cases hi v with h | ⟨e, q, a, b, rfl, hd, he⟩
  · exact hV 0 S _ (go_x0 hi hx h ⟨fun _ => hp S [] hx (by rw [List.append_nil]; exact hf) (fun e he => by rw [h] at he; cases he), fun h2 => zero_ne h2⟩)
  · refine hV 0 S _ (go_x1 hi hx a b hd ⟨fun h2 => one_ne h2, fun _ => ?_⟩)
    rw [nu_half (by omega), nI_clamp (by omega)]
    obtain ⟨f1, f2, f3, f4, f5⟩ := id hf
    refine ⟨vp_in_nI (by omega) (by omega), fun h => hp S [] hx (by rw [List.append_nil]; exact hf) (fun e' he' => ?_), fun h => ?_⟩
    · rw [he] at he'; cases he'
      rw [List.append_nil]
      exact Classical.byContradiction (fun hn => h ((f1 e a b).mpr hn))
    · have hnL := (f1 e a b).mp h
      have hn2 : (e :: L).Nodup := List.nodup_cons.mpr ⟨hnL, f4⟩
      have hlen : L.length < E := by
        have hn : (0 :: e :: L).Nodup := List.nodup_cons.mpr ⟨fun h0 => by
          rcases List.mem_cons.mp h0 with h0 | h0
          · omega
          · have := (f5 0 h0).2.1; omega, hn2⟩
        have := ge_len (E + 1) (0 :: e :: L) hn (fun x hx => by
          rcases List.mem_cons.mp hx with rfl | hx
          · omega
          · rcases List.mem_cons.mp hx with rfl | hx
            · omega
            · have := (f5 x hx).2.2; omega)
        rw [List.length_cons, List.length_cons] at this
        omega
      refine ⟨vp_in_nI (by omega) (by omega), fun S3 e3 => ?_⟩
      have g3 : S3 100 1 = nI L.length := by rw [e3]; exact f2
      rw [g3, nI_clamp (by omega)]
      refine ⟨vp_in_nI (by omega) (by omega), fun S4 e4 => ?_⟩
      have g4 : S4 100 1 = nI L.length := by rw [e4]; exact g3
      rw [g4, nI_1]
      intro S5 e5
      refine hp S5 [e] (by rw [e5, e4, e3]; exact hx) ?_ (fun e' he' => by rw [he] at he'; cases he'; exact List.mem_append_right _ (List.mem_singleton.mpr rfl))
      have r4 : S5 4 = upd (S 4) e 1 := by rw [e5, e4, e3]; rfl
      have r5 : S5 5 = upd (S 5) L.length (nI e) := by rw [e5, e4, e3]; rfl
      have r1 : S5 100 1 = nI (L.length + 1) := by rw [e5]; rfl
      clear e3 e4 e5
      refine ⟨fun k k1 k2 => ?_, by rw [r1, List.length_append]; rfl, fun i k hk => ?_, ?_, fun k hk => ?_⟩
      · rw [r4]
        by_cases hke : k = e
        · subst hke
          rw [pk_us]
          exact ⟨fun h => one_ne h, fun h => absurd (List.mem_append_right _ (List.mem_singleton.mpr rfl)) h⟩
        · rw [pk_un hke, f1 k k1 k2]
          constructor
          · intro h h2
            rcases List.mem_append.mp h2 with h2 | h2
            · exact h h2
            · exact hke (List.mem_singleton.mp h2)
          · intro h h2
            exact h (List.mem_append_left _ h2)
      · rw [r5]
        rcases pe_get hk with ⟨hi, hq2⟩ | ⟨hi, hq2⟩
        · rw [pk_un (by omega)]; exact f3 i k hq2
        · subst hi; subst hq2; exact pk_us
      · rw [List.nodup_append]
        refine ⟨f4, List.nodup_cons.mpr ⟨fun h => (by cases h), List.nodup_nil⟩, fun x hx y hy => ?_⟩
        rw [List.mem_singleton.mp hy]
        intro h
        rw [h] at hx
        exact hnL hx
      · rcases List.mem_append.mp hk with hk | hk
        · exact f5 k hk
        · rw [List.mem_singleton.mp hk]; exact ⟨hR e he, a, b⟩
theorem sx_findReached {also : Int32} {post : GS → Prop} (hi : pg W E D) (hx : xr E rg D S) (hp : ∀ (S' : GS) (L : List Nat), xr E rg D S' → fx E (re_set E rg D.1 also) L S' → (∀ e, e ∈ L ↔ re_set E rg D.1 also e) → post S') : wp_X_findReached W E [also] S post := by
  have hb := hi.1
  intro V hV
  -- the end
  have fin : ∀ (m i : Nat) (L : List Nat) (S : GS), i + m = E → i ≤ L.length → xr E rg D S → fx E (re_set E rg D.1 also) L S → (∀ e, re_root E rg D.1 also e → e ∈ L) → (∀ j e w e', j < i → L[j]? = some e → w ∈ pu_ws D.1 e → pu_ent E D.1 w = some e' → e' ∈ L) → V 60 S [also, nI i] := by
    intro m
    induction m with
    | zero =>
      intro i L S hm hil hx hf hr hc
      have hl := hf.len
      refine hV 60 S _ ⟨fun _ => hp S L hx hf (fun e => ⟨fun h => (hf.2.2.2.2 e h).1, fun h => h (fun e => e ∈ L) hr (fun e e' w he hw he' => ?_)⟩), fun h => absurd (by rw [hf.2.1]; exact nI_le (by omega) (by omega)) h⟩
      obtain ⟨j, hj⟩ := List.mem_iff_getElem?.mp he
      have := (List.getElem?_eq_some_iff.mp hj).1
      exact hc j e w e' (by omega) hj hw he'
    | succ m ih =>
      intro i L S hm hil hx hf hr hc
      have hl := hf.len
      refine hV 60 S _ ⟨fun h => ?_, fun h => ⟨fun h2 => absurd h2 (nI_ge (by omega) (by omega)), fun _ => ?_⟩⟩
      · rw [hf.2.1] at h
        have := (nI_leI (a := L.length) (b := i) (by omega) (by omega)).mp h
        refine hp S L hx hf (fun e => ⟨fun h => (hf.2.2.2.2 e h).1, fun h => h (fun e => e ∈ L) hr (fun e e' w he hw he' => ?_)⟩)
        obtain ⟨j, hj⟩ := List.mem_iff_getElem?.mp he
        have := (List.getElem?_eq_some_iff.mp hj).1
        exact hc j e w e' (by omega) hj hw he'
      · rw [hf.2.1] at h
        have hlt := mt (nI_leI (a := L.length) (b := i) (by omega) (by omega)).mpr h
        obtain ⟨e, he⟩ := ge_some (l := L) (i := i) (by omega)
        obtain ⟨hRe, he1, he2⟩ := hf.2.2.2.2 e (List.mem_of_getElem? he)
        obtain ⟨-, -, q, hd⟩ := hRe.live (by omega)
        have hg := hi.2.1 e q hd
        have hws := ws_some hd
        refine ⟨vp_in_nI (by omega) (by omega), fun y1 e1 => ?_⟩
        rw [nI_clamp (by omega), hf.2.2.1 i e he] at e1
        subst e1
        refine ⟨vp_in_nI (by omega) (by omega), sx_wordsOf hi hx hd (fun y4 e4 => ⟨vp_in_nI (by omega) (by omega), fun y5 e5 => ?_⟩)⟩
        rw [nI_clamp (by omega), (hx.2.2.1 e q hd).1] at e4 e5
        rw [nI_add] at e4
        rw [nI_1] at e5
        subst e4; subst e5
        have inner : ∀ (n k : Nat) (L : List Nat) (S : GS), k + n = q.2.length → i < L.length → L[i]? = some e → xr E rg D S → fx E (re_set E rg D.1 also) L S → (∀ e, re_root E rg D.1 also e → e ∈ L) → (∀ j e w e', j < i → L[j]? = some e → w ∈ pu_ws D.1 e → pu_ent E D.1 w = some e' → e' ∈ L) → (∀ j w e', j < k → q.2[j]? = some w → pu_ent E D.1 w = some e' → e' ∈ L) → V 108 S [also, nI i, nI e, nI (q.1 + (q.2.length + 1)), nI (q.1 + 1 + k)] := by
          intro n
          induction n with
          | zero =>
            intro k L S hk hiL he hx hf hr hc hw
            refine hV 108 S _ ⟨fun _ y1 e1 => ?_, fun h => absurd (nI_le (by omega) (by omega)) h⟩
            rw [nI_1] at e1; subst e1
            refine ih (i + 1) L S (by omega) (by omega) hx hf hr (fun j e2 w e' hj hje hwm hwe => ?_)
            by_cases hji : j = i
            · subst hji
              rw [he] at hje; cases hje
              rw [hws] at hwm
              obtain ⟨x, hxx⟩ := List.mem_iff_getElem?.mp hwm
              exact hw x w e' (by have := (List.getElem?_eq_some_iff.mp hxx).1; omega) hxx hwe
            · exact hc j e2 w e' (by omega) hje hwm hwe
          | succ n ihn =>
            intro k L S hk hiL he hx hf hr hc hw
            obtain ⟨w, hwk⟩ := ge_some (l := q.2) (i := k) (by omega)
            refine hV 108 S _ ⟨fun h => absurd h (nI_ge (by omega) (by omega)), fun _ => ⟨vp_in_nI (by omega) (by omega), ?_⟩⟩
            rw [nI_clamp (by omega), (hx.2.2.1 e q hd).2.2.1 k w hwk]
            refine sx_reach hi hx hf (fun e' he' => hRe.next (by rw [hws]; exact List.mem_of_getElem? hwk) he') (fun S' l hx' hf' hm' y4 e4 => ?_)
            rw [nI_1] at e4; subst e4
            refine ihn (k + 1) (L ++ l) S' (by omega) (by rw [List.length_append]; omega) (by rw [List.getElem?_append_left hiL]; exact he) hx' hf' (fun e he => List.mem_append_left _ (hr e he)) (fun j e2 w2 e' hj hje hwm hwe => ?_) (fun j w2 e' hj hjw hwe => ?_)
            · rw [List.getElem?_append_left (by omega)] at hje
              exact List.mem_append_left _ (hc j e2 w2 e' hj hje hwm hwe)
            · by_cases hjk : j = k
              · subst hjk
                rw [hwk] at hjw; cases hjw
                exact hm' e' hwe
              · exact List.mem_append_left _ (hw j w2 e' (by omega) hjw hwe)
        exact inner q.2.length 0 L S (by omega) (by omega) he hx hf hr hc (fun j w e' hj => absurd hj (Nat.not_lt_zero j))
  -- the registers
  have regs : ∀ (m r : Nat) (L : List Nat) (S : GS), r + m = 8 → xr E rg D S → fx E (re_set E rg D.1 also) L S → (∀ j e, j < r → pu_ent E D.1 (rg j) = some e → e ∈ L) → V 31 S [also, nI r] := by
    intro m
    induction m with
    | zero =>
      intro r L S hm hx hf hr
      refine hV 31 S _ ⟨fun _ => ?_, fun h => absurd (nI_le (a := 8) (by omega) (by omega)) h⟩
      refine sx_reach hi hx hf (fun e he => re_set.root (Or.inr he)) (fun S' l hx' hf' hm' y3 e3 => ?_)
      subst e3
      refine fin E 0 (L ++ l) S' (Nat.zero_add _) (Nat.zero_le _) hx' hf' (fun e he => ?_) (fun j _ _ _ hj => absurd hj (Nat.not_lt_zero j))
      rcases he with ⟨j, hj, he⟩ | he
      · exact List.mem_append_left _ (hr j e (by omega) he)
      · exact hm' e he
    | succ m ih =>
      intro r L S hm hx hf hr
      refine hV 31 S _ ⟨fun h => absurd h (nI_ge (a := r) (b := 8) (by omega) (by decide)), fun _ => ⟨vp_in_nI (by omega) (by decide), ?_⟩⟩
      rw [nI_clamp (by omega), hx.1 r (by omega)]
      refine sx_reach hi hx hf (fun e he => re_set.root (Or.inl ⟨r, by omega, he⟩)) (fun S' l hx' hf' hm' y3 e3 => ?_)
      rw [nI_1] at e3; subst e3
      refine ih (r + 1) (L ++ l) S' (by omega) hx' hf' (fun j e hj he => ?_)
      by_cases hjr : j = r
      · subst hjr; exact hm' e he
      · exact List.mem_append_left _ (hr j e (by omega) he)
  -- nothing is reached
  have none_ : ∀ (m i : Nat) (S : GS), i + m = E → xr E rg D S → (∀ j, 1 ≤ j → j ≤ i → S 4 j = 0) → V 2 S [also, nI (i + 1)] := by
    intro m
    induction m with
    | zero =>
      intro i S hm hx h0
      refine hV 2 S _ ⟨fun _ S1 e1 y2 e2 => ?_, fun h => absurd (nI_le (by omega) (by omega)) h⟩
      subst e1; subst e2
      refine regs 8 0 [] _ (by omega) (show xr E rg D (gx_set 100 1 0 S) from hx) ⟨fun e a b => ⟨fun _ h => (by cases h), fun _ => h0 e a (by omega)⟩, rfl, fun i e h => (by cases h), List.nodup_nil, fun e h => (by cases h)⟩ (fun j _ hj => absurd hj (Nat.not_lt_zero j))
    | succ m ih =>
      intro i S hm hx h0
      refine hV 2 S _ ⟨fun h => absurd h (nI_ge (by omega) (by omega)), fun _ => ⟨vp_in_nI (by omega) (by omega), fun S3 e3 y4 e4 => ?_⟩⟩
      rw [nI_1] at e4
      rw [nI_clamp (by omega)] at e3
      subst e3; subst e4
      refine ih (i + 1) _ (by omega) (show xr E rg D (gx_set 4 (i + 1) 0 S) from hx) (fun j j1 j2 => ?_)
      show upd (S 4) (i + 1) 0 j = 0
      by_cases hji : j = i + 1
      · subst hji; exact pk_us
      · rw [pk_un hji]; exact h0 j j1 (by omega)
  refine hV 0 S _ (fun y1 e1 => ?_)
  subst e1
  exact none_ E 0 S (Nat.zero_add _) hx (fun j j1 j2 => by omega)
/-- how many are not marked -/
def un (E : Nat) (S : GS) : Nat := pu_sum (fun i => if S 11 i = 0 then 1 else 0) E
theorem sm_reach {z : Nat} {t : Int32} {v : Int32} {post : Int32 → GS → Prop} (hi : pg W E D) (hm : mk W E z t rg D S) (hv : pval E D v) (hp : ∀ (r : Int32) (S' : GS), mk W E z t rg D S' → (∀ e, ¬ S 11 e = 0 → ¬ S' 11 e = 0) → (∀ e, ¬ S' 11 e = 0 → ¬ S 11 e = 0 ∨ pu_ent E D.1 v = some e) → (∀ e, pu_ent E D.1 v = some e → ¬ S' 11 e = 0) → ((r = 0 ∧ S' = S) ∨ (r = 1 ∧ un E S' < un E S)) → post r S') : wp_M_reach [v] S post := by
  have hb := hi.1
  intro V hV
  refine hV 0 S _ (sm_leads (fun h => ⟨fun _ y3 e3 => ⟨fun _ => ?_, fun h2 => absurd e3 h2⟩, fun h2 => zero_ne h2⟩) (fun h h2 => ⟨fun h3 => one_ne h3, fun _ => ?_⟩))
  · subst e3
    refine ⟨nb_0, hp 0 S hm (fun _ h => h) (fun _ h => Or.inl h) (fun e he => ?_) (Or.inl ⟨rfl, rfl⟩)⟩
    obtain ⟨a, b, c, d⟩ := (pu_ent_some (by omega)).mp he
    subst c
    rcases h with h | h
    · exact absurd h (nI_ne0 (by omega) (by omega))
    · exact absurd (nu_even (by omega)) h
  · obtain ⟨e, q, a, b, rfl, hd⟩ : ∃ (e : Nat) (q : PO), 1 ≤ e ∧ e ≤ E ∧ v = nI (2 * e) ∧ D.1 e = some q := by
      rcases hv with h3 | h3 | h3
      · exact absurd h3 h
      · exact absurd h2 h3
      · exact h3
    have he := ent_of hb.2.2.2 a b hd
    rw [nu_half (by omega), nI_clamp (by omega)]
    refine ⟨vp_in_nI (by omega) (by decide), fun h3 y5 e5 => ⟨fun _ => ?_, fun h4 => absurd e5 h4⟩, fun h3 y7 e7 => ⟨fun h4 => by rw [e7] at h4; exact one_ne h4, fun _ => ⟨vp_in_nI (by omega) (by decide), fun S8 e8 => ?_⟩⟩⟩
    · subst e5
      exact ⟨nb_0, hp 0 S hm (fun _ h => h) (fun _ h => Or.inl h) (fun e' he' => by rw [he] at he'; cases he'; exact h3) (Or.inl ⟨rfl, rfl⟩)⟩
    · subst e7
      have r11 : S8 11 = upd (S 11) e 1 := by rw [e8]; rfl
      refine ⟨nb_1, hp 1 S8 (by rw [e8]; exact hm) (fun k hk => ?_) (fun k hk => ?_) (fun k hk => ?_) (Or.inr ⟨rfl, ?_⟩)⟩
      · rw [r11]
        by_cases hke : k = e
        · subst hke; rw [pk_us]; decide
        · rw [pk_un hke]; exact hk
      · by_cases hke : k = e
        · subst hke; exact Or.inr he
        · rw [r11, pk_un hke] at hk; exact Or.inl hk
      · rw [he] at hk; cases hk
        rw [r11, pk_us]; decide
      · have := pu_sum_up (f := fun i => if S8 11 i = 0 then 1 else 0) (g := fun i => if S 11 i = 0 then 1 else 0) a b (fun i _ _ hie => by rw [r11, pk_un hie])
        have e1 : ¬ S8 11 e = 0 := by rw [r11, pk_us]; decide
        rw [if_neg e1, if_pos h3] at this
        unfold un
        omega
/-- what is reached, marked so far -/
def gi (W E z : Nat) (t : Int32) (rg : Nat → Int32) (D : PD) (R : Nat → Prop) (S : GS) : Prop := mk W E z t rg D S ∧ ∀ e, 1 ≤ e → e ≤ E → ¬ S 11 e = 0 → R e
theorem sm_reachR {z : Nat} {t : Int32} {v : Int32} {R : Nat → Prop} {post : Int32 → GS → Prop} (hi : pg W E D) (hm : gi W E z t rg D R S) (hv : pval E D v) (hR : ∀ e, pu_ent E D.1 v = some e → R e) (hp : ∀ (r : Int32) (S' : GS), gi W E z t rg D R S' → (∀ e, ¬ S 11 e = 0 → ¬ S' 11 e = 0) → (∀ e, pu_ent E D.1 v = some e → ¬ S' 11 e = 0) → ((r = 0 ∧ S' = S) ∨ (r = 1 ∧ un E S' < un E S)) → post r S') : wp_M_reach [v] S post :=
  sm_reach hi hm.1 hv (fun r S' h1 h2 h3 h4 h5 => hp r S' ⟨h1, fun e a b he => by
    rcases h3 e he with h | h
    · exact hm.2 e a b h
    · exact hR e h⟩ h2 h4 h5)
/-- all that an object's words lead to is marked -/
def cl_at (E : Nat) (D : PD) (S : GS) (e : Nat) : Prop := ∀ (w : Int32) (e' : Nat), w ∈ pu_ws D.1 e → pu_ent E D.1 w = some e' → ¬ S 11 e' = 0
theorem sm_spread {z : Nat} {t : Int32} {i : Nat} {q : PO} {R : Nat → Prop} {post : Int32 → GS → Prop} (hi : pg W E D) (hm : gi W E z t rg D R S) (hd : D.1 i = some q) (hval : ∀ w ∈ q.2, pval E D w) (hR : ∀ w ∈ q.2, ∀ e, pu_ent E D.1 w = some e → R e) (hp : ∀ (r : Int32) (S' : GS), gi W E z t rg D R S' → (∀ e, ¬ S 11 e = 0 → ¬ S' 11 e = 0) → ((r = 0 ∧ S' = S ∧ cl_at E D S i) ∨ (r = 1 ∧ un E S' < un E S)) → post r S') : wp_M_spread [nI i] S post := by
  have hb := hi.1
  have hg := hi.2.1 i q hd
  have hws := ws_some hd
  intro V hV
  have loop : ∀ (n k : Nat) (v2 : Int32) (S1 : GS), k + n = q.2.length → gi W E z t rg D R S1 → (∀ e, ¬ S 11 e = 0 → ¬ S1 11 e = 0) → ((v2 = 0 ∧ S1 = S ∧ ∀ j w e', j < k → q.2[j]? = some w → pu_ent E D.1 w = some e' → ¬ S 11 e' = 0) ∨ (v2 = 1 ∧ un E S1 < un E S)) → V 4 S1 [nI i, v2, nI k] := by
    intro n
    induction n with
    | zero =>
      intro k v2 S1 hk hm1 hmo hor
      have hmq := hm1.1.1.2.2.2.1 i q hd
      refine hV 4 S1 _ ⟨vp_in_nI (by omega) (by decide), ?_⟩
      rw [nI_clamp (by omega), hmq.2.2.1]
      refine ⟨fun _ => ?_, fun h => absurd (nI_lt (by omega) (by omega)) h⟩
      rcases hor with ⟨rfl, rfl, hc⟩ | ⟨rfl, hu⟩
      · refine ⟨nb_0, hp 0 S1 hm1 (fun _ h => h) (Or.inl ⟨rfl, rfl, fun w e' hw he' => ?_⟩)⟩
        rw [hws] at hw
        obtain ⟨x, hxx⟩ := List.mem_iff_getElem?.mp hw
        exact hc x w e' (by have := (List.getElem?_eq_some_iff.mp hxx).1; omega) hxx he'
      · exact ⟨nb_1, hp 1 S1 hm1 hmo (Or.inr ⟨rfl, hu⟩)⟩
    | succ n ih =>
      intro k v2 S1 hk hm1 hmo hor
      have hmq := hm1.1.1.2.2.2.1 i q hd
      obtain ⟨w, hwk⟩ := ge_some (l := q.2) (i := k) (by omega)
      have hwm := List.mem_of_getElem? hwk
      refine hV 4 S1 _ ⟨vp_in_nI (by omega) (by decide), ?_⟩
      rw [nI_clamp (by omega), hmq.2.2.1, hmq.2.1, nI_1, nI_add, nI_clamp (by omega), hmq.2.2.2.1 k w hwk]
      refine ⟨fun h => absurd h (nI_nlt (by omega) (by omega)), fun _ => ⟨vp_in_nI (by omega) (by decide), vp_in_nI (by omega) (by decide), ?_⟩⟩
      refine sm_reachR hi hm1 (hval w hwm) (hR w hwm) (fun r S2 hm2 hmo2 hmk hor2 => ?_)
      have hmo3 : ∀ e, ¬ S 11 e = 0 → ¬ S2 11 e = 0 := fun e h => hmo2 e (hmo e h)
      rcases hor with ⟨rfl, rfl, hc⟩ | ⟨rfl, hu⟩
      · refine ⟨fun h => zero_ne h, fun _ => ?_⟩
        rcases hor2 with ⟨rfl, rfl⟩ | ⟨rfl, hu⟩
        · refine ⟨fun _ y5 e5 y6 e6 => ?_, fun h => zero_ne h⟩
          rw [nI_1] at e6; subst e5; subst e6
          refine ih (k + 1) 0 S2 (by omega) hm2 hmo3 (Or.inl ⟨rfl, rfl, fun j w2 e' hj hjw he' => ?_⟩)
          by_cases hjk : j = k
          · subst hjk
            rw [hwk] at hjw; cases hjw
            exact hmk e' he'
          · exact hc j w2 e' (by omega) hjw he'
        · refine ⟨fun h => one_ne h, fun _ y5 e5 y6 e6 => ?_⟩
          rw [nI_1] at e6; subst e5; subst e6
          exact ih (k + 1) 1 S2 (by omega) hm2 hmo3 (Or.inr ⟨rfl, hu⟩)
      · refine ⟨fun _ y5 e5 y6 e6 => ?_, fun h => one_ne h⟩
        rw [nI_1] at e6; subst e5; subst e6
        refine ih (k + 1) 1 S2 (by omega) hm2 hmo3 (Or.inr ⟨rfl, ?_⟩)
        rcases hor2 with ⟨-, rfl⟩ | ⟨-, hu2⟩
        · exact hu
        · omega
  refine hV 0 S _ (fun y1 e1 y2 e2 => ?_)
  subst e1; subst e2
  exact loop q.2.length 0 0 S (Nat.zero_add _) hm (fun _ h => h) (Or.inl ⟨rfl, rfl, fun j w e' hj => absurd hj (Nat.not_lt_zero j)⟩)
end RE
