/-! Going over entries and chunks. -/
section CH2
variable {W E : Nat} {rg : Nat → Int32} {D : PD} {S : GS}
theorem nI_nm1 {n : Nat} (h : n < 2 ^ 31) : ¬ nI n = -1 := fun h2 => by
  have h6 : (nI n).toInt = (-1 : Int32).toInt := by rw [h2]
  rw [nI_toInt h, show (-1 : Int32).toInt = -1 from by decide] at h6
  omega
theorem sx_used {e : Nat} {post : Int32 → GS → Prop} (hg : ∀ (e : Nat) (q : PO), D.1 e = some q → q.1 < 2 ^ 31) (hx : xr E rg D S) (hE : E ≤ 40) (h1 : 1 ≤ e) (h2 : e ≤ E) (h0 : D.1 e = none → post 0 S) (hs : ∀ q, D.1 e = some q → post 1 S) : wp_X_isUsed W E [nI e] S post := by
  refine sx_isUsed h2 hE (fun h => ?_) (fun h => ?_)
  · cases hd : D.1 e with
    | none => exact h0 hd
    | some q =>
      rw [(hx.2.2.1 e q hd).1] at h
      exact absurd h (nI_nm1 (hg e q hd))
  · cases hd : D.1 e with
    | none => exact absurd (hx.2.1 e h1 h2 hd) h
    | some q => exact hs q hd
theorem pg.adr (hi : pg W E D) : ∀ (e : Nat) (q : PO), D.1 e = some q → q.1 < 2 ^ 31 := fun e q h => by
  have := hi.2.1 e q h
  have := hi.1
  omega
theorem mr.live {z : Nat} {e : Nat} {P0 P1 : Prop} (hm : mr W E z rg D S) (h1 : 1 ≤ e) (h2 : e ≤ E) (h0 : D.1 e = none → P0) (hs : ∀ q, D.1 e = some q → P1) : (S 1 e = 0 → P0) ∧ (¬ S 1 e = 0 → P1) := by
  cases hd : D.1 e with
  | none =>
    have := hm.2.2.1 e h1 h2 hd
    exact ⟨fun _ => h0 hd, fun h => absurd this h⟩
  | some q =>
    have := (hm.2.2.2.1 e q hd).1
    exact ⟨fun h => by rw [this] at h; exact one_ne h, fun _ => hs q hd⟩
def pu_num (ob : PB) (n : Nat) : Nat := pu_sum (fun i => if (ob i).isSome = true then 1 else 0) n
theorem pu_num0 {ob : PB} {n : Nat} (h : ob (n + 1) = none) : pu_num ob (n + 1) = pu_num ob n := by
  show pu_num ob n + (if (ob (n + 1)).isSome = true then 1 else 0) = _
  rw [h]; rfl
theorem pu_num1 {ob : PB} {n : Nat} {q : PO} (h : ob (n + 1) = some q) : pu_num ob (n + 1) = pu_num ob n + 1 := by
  show pu_num ob n + (if (ob (n + 1)).isSome = true then 1 else 0) = _
  rw [h]; rfl
theorem si_objects : sm_objects W E (JJ W E) := by
  intro n X M _ hj PX hP
  obtain ⟨rg, D, hi, hx, hm⟩ := hj
  have hb := hi.1
  intro V hV
  have lx : ∀ m i, i + m = E → V 4 X [nI (pu_num D.1 i), nI (i + 1)] := by
    intro m
    induction m with
    | zero =>
      intro i h
      refine hV 4 X _ ⟨fun _ => ?_, fun h2 => absurd (nI_le (by omega) (by omega)) h2⟩
      have : i = E := by omega
      subst this
      refine hP _ X (fun PM hM V2 hV2 => ?_)
      have hm0 : mk W i (2000 * (n + 1)) 0 rg D (gx_set 100 0 0 M) := mk.start hm 0
      have lm : ∀ m j, j + m = i → V2 9 (gx_set 100 0 0 M) [nI (pu_num D.1 j), nI (j + 1)] := by
        intro m
        induction m with
        | zero =>
          intro j h
          have : j = i := by omega
          subst this
          refine hV2 9 _ _ ⟨fun _ => hM _ (JJ.of hi hx hm0 (by omega)), fun h2 => absurd (by rw [hm0.1.1.2]; exact nI_lt (by omega) (by omega)) h2⟩
        | succ m ih =>
          intro j h
          refine hV2 9 _ _ ⟨fun h2 => absurd h2 (by rw [hm0.1.1.2]; exact nI_nlt (by omega) (by omega)), fun _ => ⟨vp_in_nI (by omega) (by decide), ?_⟩⟩
          rw [nI_clamp (by omega)]
          refine hm0.1.live (by omega) (by omega) (fun hd y1 e1 => ?_) (fun q hd y1 e1 y2 e2 => ?_)
          · subst e1
            rw [nI_1, ← pu_num0 hd]; exact ih (j + 1) (by omega)
          · subst e1; subst e2
            rw [nI_1, nI_1, ← pu_num1 hd]; exact ih (j + 1) (by omega)
      exact hV2 0 M [] (fun S1 e1 y2 e2 y3 e3 => by subst e1; subst e2; subst e3; exact lm i 0 (by omega))
    | succ m ih =>
      intro i h
      refine hV 4 X _ ⟨fun h2 => absurd h2 (nI_ge (by omega) (by omega)), fun _ => ?_⟩
      refine sx_used hi.pg.adr hx hb.2.2.2 (by omega) (by omega) (fun hd => ⟨fun _ y1 e1 => ?_, fun h => zero_ne h⟩) (fun q hd => ⟨fun h => one_ne h, fun _ y1 e1 y2 e2 => ?_⟩)
      · subst e1
        rw [nI_1, ← pu_num0 hd]; exact ih (i + 1) (by omega)
      · subst e1; subst e2
        rw [nI_1, nI_1, ← pu_num1 hd]; exact ih (i + 1) (by omega)
  exact hV 0 X [] (fun y1 e1 y2 e2 => by subst e1; subst e2; exact lx E 0 (by omega))
theorem ge_some {α : Type} {l : List α} {i : Nat} (h : i < l.length) : ∃ c, l[i]? = some c := ⟨l[i], List.getElem?_eq_getElem h⟩
theorem sf_all {post : Int32 → GS → Prop} (hx : xr E rg D S) (hl : D.2.2.length ≤ W) (hW : W ≤ 400) (hp : post (nI (ch_all D.2.2)) S) : wp_F_allWords W E [] S post := by
  intro V hV
  obtain ⟨-, -, -, h4, h5⟩ := hx
  have loop : ∀ m i, i + m = D.2.2.length → V 4 S [nI (ch_all (D.2.2.take i)), nI i] := by
    intro m
    induction m with
    | zero =>
      intro i h
      refine hV 4 S _ ⟨fun _ => ?_, fun h2 => absurd (by rw [h4]; exact nI_le (by omega) (by omega)) h2⟩
      rw [List.take_of_length_le (by omega)]; exact hp
    | succ m ih =>
      intro i h
      obtain ⟨c, hc⟩ := ge_some (l := D.2.2) (i := i) (by omega)
      refine hV 4 S _ ⟨fun h2 => absurd h2 (by rw [h4]; exact nI_ge (by omega) (by omega)), fun _ => ⟨vp_in_nI (by omega) (by omega), fun y1 e1 y2 e2 => ?_⟩⟩
      rw [nI_clamp (by omega), (h5 i c hc).2, nI_add, ← ch_all_take hc] at e1
      rw [nI_1] at e2
      subst e1; subst e2
      exact ih (i + 1) (by omega)
  exact hV 0 S [] (fun y1 e1 y2 e2 => by subst e1; subst e2; exact loop _ 0 (Nat.zero_add _))
theorem sf_of {x : Int32} {post : Int32 → GS → Prop} (hx : xr E rg D S) (hl : D.2.2.length ≤ W) (hW : W ≤ 400) (hp : post (nI (ch_of D.2.2 x)) S) : wp_F_ofSize W E [x] S post := by
  intro V hV
  obtain ⟨-, -, -, h4, h5⟩ := hx
  have loop : ∀ m i, i + m = D.2.2.length → V 4 S [x, nI (ch_of (D.2.2.take i) x), nI i] := by
    intro m
    induction m with
    | zero =>
      intro i h
      refine hV 4 S _ ⟨fun _ => ?_, fun h2 => absurd (by rw [h4]; exact nI_le (by omega) (by omega)) h2⟩
      rw [List.take_of_length_le (by omega)]; exact hp
    | succ m ih =>
      intro i h
      obtain ⟨c, hc⟩ := ge_some (l := D.2.2) (i := i) (by omega)
      have hct := ch_of_take (x := x) hc
      refine hV 4 S _ ⟨fun h2 => absurd h2 (by rw [h4]; exact nI_ge (by omega) (by omega)), fun _ => ⟨vp_in_nI (by omega) (by omega), ?_⟩⟩
      rw [nI_clamp (by omega), (h5 i c hc).2]
      refine ⟨fun h2 y1 e1 => ?_, fun h2 y1 e1 y2 e2 => ?_⟩
      · rw [if_neg h2] at hct
        rw [nI_1] at e1
        subst e1
        have := ih (i + 1) (by omega)
        rw [hct] at this
        exact this
      · rw [if_pos h2] at hct
        rw [nI_1] at e1 e2
        subst e1; subst e2
        have := ih (i + 1) (by omega)
        rw [hct] at this
        exact this
  exact hV 0 S _ (fun y1 e1 y2 e2 => by subst e1; subst e2; exact loop _ 0 (Nat.zero_add _))
theorem ch_all_perm {l l' : List (Nat × Nat)} (h : l.Perm l') : ch_all l = ch_all l' := by
  induction h with
  | nil => rfl
  | cons a _ ih =>
    show ch_all (a :: _) = ch_all (a :: _)
    unfold ch_all at ih ⊢
    rw [List.map_cons, List.map_cons, List.sum_cons, List.sum_cons, ih]
  | swap a b l =>
    unfold ch_all
    rw [List.map_cons, List.map_cons, List.map_cons, List.map_cons, List.sum_cons, List.sum_cons, List.sum_cons, List.sum_cons]
    omega
  | trans _ _ h1 h2 => exact h1.trans h2
theorem ch_of_perm {l l' : List (Nat × Nat)} {x : Int32} (h : l.Perm l') : ch_of l x = ch_of l' x := (h.filter _).length_eq
/-- the reference's chunks as pairs, in its own order -/
theorem mc.pairs {k : Nat} {fr : List (Nat × Nat)} (h : mc k fr S) : ∃ pl : List (Nat × Nat), pl.Perm fr ∧ pl.length = fr.length ∧ S 100 3 = nI pl.length ∧ ch_rep (S 6) (S 7) pl := by
  obtain ⟨c, P, Z, m1, m2, m3, m4, m5, m6, m7, m8⟩ := h
  have hp : (P.map (fun q => (q.1, q.2.1))).Perm fr := by rw [← m8]; exact m5.map _
  refine ⟨P.map (fun q => (q.1, q.2.1)), hp, hp.length_eq, by rw [List.length_map]; exact m3, fun i c hc => ?_⟩
  rw [List.getElem?_map] at hc
  cases hq : P[i]? with
  | none => rw [hq] at hc; cases hc
  | some q =>
    rw [hq] at hc
    cases hc
    exact ⟨(m4 i q hq).1, (m4 i q hq).2.1⟩
theorem sm_freeWords {z : Nat} {post : Int32 → GS → Prop} (hm : mr W E z rg D S) (hl : D.2.2.length ≤ 400) (hp : post (nI (ch_all D.2.2)) S) : wp_M_freeWords [] S post := by
  intro V hV
  obtain ⟨pl, p1, p2, h4, h5⟩ := hm.2.2.2.2.pairs
  rw [← ch_all_perm p1] at hp
  have loop : ∀ m i, i + m = pl.length → V 4 S [nI (ch_all (pl.take i)), nI i] := by
    intro m
    induction m with
    | zero =>
      intro i h
      refine hV 4 S _ ⟨fun _ => ?_, fun h2 => absurd (by rw [h4]; exact nI_le (by omega) (by omega)) h2⟩
      rw [List.take_of_length_le (by omega)]; exact hp
    | succ m ih =>
      intro i h
      obtain ⟨c, hc⟩ := ge_some (l := pl) (i := i) (by omega)
      refine hV 4 S _ ⟨fun h2 => absurd h2 (by rw [h4]; exact nI_ge (by omega) (by omega)), fun _ => ⟨vp_in_nI (by omega) (by decide), fun y1 e1 y2 e2 => ?_⟩⟩
      rw [nI_clamp (by omega), (h5 i c hc).2, nI_add, ← ch_all_take hc] at e1
      rw [nI_1] at e2
      subst e1; subst e2
      exact ih (i + 1) (by omega)
  exact hV 0 S [] (fun y1 e1 y2 e2 => by subst e1; subst e2; exact loop _ 0 (Nat.zero_add _))
theorem si_free : sm_free W E (JJ W E) := by
  intro n X M _ hj PX hP
  obtain ⟨rg, D, hi, hx, hm⟩ := hj
  have hb := hi.1
  have hl := hi.2.1.len
  intro V hV
  refine hV 0 X [] (sf_all hx hl hb.2.1 (hP _ X (fun PM hM V2 hV2 => ?_)))
  refine hV2 0 M [] (fun S1 e1 => ?_)
  subst e1
  exact sm_freeWords (hm.thrown 0) (by omega) (hM _ (JJ.of hi hx (mk.start hm 0) (by omega)))
theorem si_chunks : sm_chunks W E (JJ W E) := by
  intro n X M a _ hj PX hP
  obtain ⟨rg, D, hi, hx, hm⟩ := hj
  have hb := hi.1
  have hl := hi.2.1.len
  have hm0 : mk W E (2000 * (n + 1)) 0 rg D (gx_set 100 0 0 M) := mk.start hm 0
  have hJ := JJ.of (n := n + 1) hi hx hm0 (by omega)
  obtain ⟨pl, p1, p2, h4, h5⟩ := hm0.1.2.2.2.2.pairs
  intro V hV
  refine hV 0 X _ ⟨fun ha => sf_of hx hl hb.2.1 (hP _ X (fun PM hM V2 hV2 => ?_)), fun ha => hP _ X (fun PM hM V2 hV2 => ?_)⟩
  · rw [← ch_of_perm p1] at hM
    have loop : ∀ m i, i + m = pl.length → V2 9 (gx_set 100 0 0 M) [a, nI (ch_of (pl.take i) a), nI i] := by
      intro m
      induction m with
      | zero =>
        intro i h
        refine hV2 9 _ _ ⟨fun _ => ?_, fun h2 => absurd (by rw [h4]; exact nI_le (by omega) (by omega)) h2⟩
        rw [List.take_of_length_le (by omega)]; exact hM _ hJ
      | succ m ih =>
        intro i h
        obtain ⟨c, hc⟩ := ge_some (l := pl) (i := i) (by omega)
        have hct := ch_of_take (x := a) hc
        refine hV2 9 _ _ ⟨fun h2 => absurd h2 (by rw [h4]; exact nI_ge (by omega) (by omega)), fun _ => ⟨fun h => absurd h ha, fun _ => ⟨vp_in_nI (by omega) (by decide), ?_⟩⟩⟩
        rw [nI_clamp (by omega), (h5 i c hc).2]
        refine ⟨fun h2 y1 e1 => ?_, fun h2 y1 e1 y2 e2 => ?_⟩
        · rw [if_neg h2] at hct
          rw [nI_1] at e1
          subst e1
          have := ih (i + 1) (by omega)
          rw [hct] at this
          exact this
        · rw [if_pos h2] at hct
          rw [nI_1] at e1 e2
          subst e1; subst e2
          have := ih (i + 1) (by omega)
          rw [hct] at this
          exact this
    exact hV2 0 M _ (fun S1 e1 y2 e2 y3 e3 => by subst e1; subst e2; subst e3; exact loop _ 0 (Nat.zero_add _))
  · subst ha
    rw [hx.2.2.2.1, ← p2] at hM
    have loop : ∀ m i, i + m = pl.length → V2 9 (gx_set 100 0 0 M) [0, nI i, nI i] := by
      intro m
      induction m with
      | zero =>
        intro i h
        refine hV2 9 _ _ ⟨fun _ => ?_, fun h2 => absurd (by rw [h4]; exact nI_le (by omega) (by omega)) h2⟩
        have : i = pl.length := by omega
        subst this
        exact hM _ hJ
      | succ m ih =>
        intro i h
        refine hV2 9 _ _ ⟨fun h2 => absurd h2 (by rw [h4]; exact nI_ge (by omega) (by omega)), fun _ => ⟨fun _ y1 e1 y2 e2 => ?_, fun h => absurd rfl h⟩⟩
        rw [nI_1] at e1 e2
        subst e1; subst e2
        exact ih (i + 1) (by omega)
    exact hV2 0 M _ (fun S1 e1 y2 e2 y3 e3 => by subst e1; subst e2; subst e3; exact loop _ 0 (Nat.zero_add _))
/-- nothing found, or where -/
def enc : Option Nat → Int32
  | none => -1
  | some j => nI j
theorem sf_bestFor {n : Nat} {post : Int32 → GS → Prop} (hi : pg W E D) (hx : xr E rg D S) (hn : n < 2 ^ 31) (h0 : ch_none D.2.2 n → post (-1) S) (h1 : ∀ j, ch_best D.2.2 n j → post (nI j) S) : wp_F_bestFor W E [nI n] S post := by
  intro V hV
  have hb := hi.1
  have hl := hi.2.len
  have hsz : ∀ (i : Nat) (c : Nat × Nat), D.2.2[i]? = some c → c.2 ≤ 400 := fun i c hc => by
    have := hi.2.2.2.1 c (List.mem_of_getElem? hc); omega
  obtain ⟨-, -, -, h4, h5⟩ := hx
  have hdn : ∀ i, nI i + (-1) = nI i - 1 := fun i => by
    cases i with
    | zero => decide
    | succ i => rw [pk_m1, nI_pred]
  have loop : ∀ i bo, i ≤ D.2.2.length → ch_seen D.2.2 n i bo → V 9 S [nI n, enc bo, nI i - 1] := by
    intro i
    induction i with
    | zero =>
      intro bo _ hs
      refine hV 9 S _ ⟨fun _ => ?_, fun h => absurd (by decide) h⟩
      cases bo with
      | none => exact h0 hs.no
      | some j => exact h1 j hs.done
    | succ i ih =>
      intro bo hil hs
      obtain ⟨c, hc⟩ := ge_some (l := D.2.2) (i := i) (by omega)
      rw [nI_pred]
      refine hV 9 S _ ⟨fun h => absurd h (nI_pos (by omega)), fun _ => ⟨vp_in_nI (by omega) (by omega), ?_⟩⟩
      have hc2 := hsz i c hc
      rw [nI_clamp (by omega), (h5 i c hc).2]
      refine ⟨fun h2 y1 e1 => ?_, fun h2 => ⟨fun h3 y1 e1 => ?_, fun h3 => ?_⟩⟩
      · rw [hdn] at e1; subst e1
        have := (nI_ltI (by omega) (by omega)).mp h2
        exact ih bo (by omega) (hs.small hc (by omega))
      · rw [hdn] at e1; subst e1
        have := mt (nI_ltI (a := c.2) (b := n) (by omega) (by omega)).mpr h2
        cases bo with
        | none => exact ih (some i) (by omega) (hs.first hc (by omega))
        | some j =>
          obtain ⟨c', c1, -⟩ := hs
          have := (List.getElem?_eq_some_iff.mp c1).1
          exact absurd h3 (nI_nm1 (by omega))
      · have := mt (nI_ltI (a := c.2) (b := n) (by omega) (by omega)).mpr h2
        cases bo with
        | none => exact absurd rfl h3
        | some j =>
          obtain ⟨c', c1, -⟩ := id hs
          have hj := (List.getElem?_eq_some_iff.mp c1).1
          have hc' := hsz j c' c1
          refine ⟨vp_in_nI (by omega) (by omega), vp_in_nI (by omega) (by omega), ?_⟩
          show (S 7 (nI j).toNatClampNeg ≤ _ → _) ∧ (¬ S 7 (nI j).toNatClampNeg ≤ _ → _)
          rw [nI_clamp (by omega), (h5 j c' c1).2]
          refine ⟨fun h6 y1 e1 => ?_, fun h6 y1 e1 => ?_⟩
          · rw [hdn] at e1; subst e1
            have := (nI_leI (by omega) (by omega)).mp h6
            exact ih (some j) (by omega) (hs.keep hc c1 (by omega))
          · rw [hdn] at e1; subst e1
            have := mt (nI_leI (a := c'.2) (b := c.2) (by omega) (by omega)).mpr h6
            exact ih (some i) (by omega) (hs.less hc c1 (by omega) (by omega))
  refine hV 0 S _ (fun y1 e1 y2 e2 => ?_)
  rw [h4] at e2
  subst e1; subst e2
  exact loop _ none (Nat.le_refl _) ch_seen.start
/-- n words are taken of chunk j -/
def ch_cut (fr : List (Nat × Nat)) (j : Nat) (c : Nat × Nat) (n : Nat) : List (Nat × Nat) := fr.eraseIdx j ++ (if n < c.2 then [(c.1 + n, c.2 - n)] else [])
theorem sf_take {n : Nat} {post : Int32 → GS → Prop} (hi : pg W E D) (hx : xr E rg D S) (hn : n ≤ 22) (h0 : ch_none D.2.2 n → post (-1) S) (h1 : ∀ (j : Nat) (c : Nat × Nat), ch_best D.2.2 n j → D.2.2[j]? = some c → ∀ S' : GS, xr E rg (D.1, D.2.1, ch_cut D.2.2 j c n) S' → post (nI c.1) S') : wp_F_take W E [nI n] S post := by
  intro V hV
  have hb := hi.1
  have hl := hi.2.len
  refine hV 0 S _ (sf_bestFor hi hx (by omega) (fun h => ⟨fun h2 => absurd rfl h2, fun _ => h0 h⟩) (fun j hj => ⟨fun _ => ?_, fun h2 => absurd h2 (nI_nm1 (by have := hj.lt; omega))⟩))
  have hjl := hj.lt
  obtain ⟨c, hc, hnc, -⟩ := id hj
  have hcg := hi.2.2.2.1 c (List.mem_of_getElem? hc)
  obtain ⟨x1, x2, x3, h4, h5⟩ := id hx
  refine ⟨vp_in_nI (by omega) (by omega), fun y3 e3 => ⟨vp_in_nI (by omega) (by omega), fun y4 e4 => ?_⟩⟩
  rw [nI_clamp (by omega), (h5 j c hc).1] at e3
  rw [nI_clamp (by omega), (h5 j c hc).2, pk_sub hnc] at e4
  subst e3; subst e4
  intro V1 hV1
  refine hV1 0 S _ (fun S1 e1 => ?_)
  have g1 : S1 100 0 = nI (D.2.2.length - 1) := by rw [e1, h4]; show nI _ - nI 1 = _; exact pk_sub (by omega)
  have g2 : S1 100 0 - nI j = nI (D.2.2.length - 1 - j) := by rw [g1, pk_sub (by omega)]
  rw [g2, nI_1, nI_clamp (by omega), nI_clamp (by omega), nI_clamp (by omega)]
  refine ⟨nI_pos (by omega), nI_pos (by omega), nI_pos (by omega), by omega, by omega, fun S2 e2 => ?_⟩
  have g3 : S2 100 0 - nI j = nI (D.2.2.length - 1 - j) := by rw [e2]; exact g2
  rw [g3, nI_clamp (by omega)]
  refine ⟨nI_pos (by omega), nI_pos (by omega), nI_pos (by omega), by omega, by omega, fun S3 e3 => ?_⟩
  have hx3 : xr E rg (D.1, D.2.1, D.2.2.eraseIdx j) S3 := by
    subst e3; subst e2; subst e1
    refine ⟨x1, x2, x3, ?_, h5.erase hjl⟩
    rw [List.length_eraseIdx_of_lt hjl]
    exact g1
  clear e1 e2 e3
  have h1' := h1 j c hj hc
  unfold ch_cut at h1'
  refine ⟨fun h2 => h1' S3 ?_, fun h2 => ?_⟩
  · have := (nI_leI (a := c.2 - n) (b := 0) (by omega) (by decide)).mp h2
    rw [if_neg (by omega), List.append_nil]; exact hx3
  · have := mt (nI_leI (a := c.2 - n) (b := 0) (by omega) (by decide)).mpr h2
    rw [if_pos (by omega)] at h1'
    rw [nI_add]
    refine sf_add hx3 ?_ hb.2.1 (fun S7 h7 _ _ => h1' S7 h7)
    show (D.2.2.eraseIdx j).length < W
    rw [List.length_eraseIdx_of_lt hjl]
    omega
end CH2
