/-! A new object: the least free entry, room for its words. -/
section IN
variable {W E : Nat} {rg : Nat → Int32} {D : PD} {S : GS}
/-- the least free entry, or 0 -/
def fe (E : Nat) (ob : PB) (e : Nat) : Prop := (e = 0 ∧ ∀ k, 1 ≤ k → k ≤ E → ∃ q, ob k = some q) ∨ (1 ≤ e ∧ e ≤ E ∧ ob e = none ∧ ∀ k, 1 ≤ k → k < e → ∃ q, ob k = some q)
theorem fe.uniq {ob : PB} {a b : Nat} (ha : fe E ob a) (hb : fe E ob b) : a = b := by
  have key : ∀ {x y : Nat}, fe E ob x → fe E ob y → ¬ x < y := fun {x y} hx hy hlt => by
    rcases hx with ⟨hx, h1⟩ | ⟨x1, x2, x3, x4⟩
    · rcases hy with ⟨hy, -⟩ | ⟨y1, y2, y3, y4⟩
      · omega
      · obtain ⟨q, hq⟩ := h1 y y1 y2
        rw [hq] at y3; cases y3
    · rcases hy with ⟨hy, -⟩ | ⟨y1, y2, y3, y4⟩
      · omega
      · obtain ⟨q, hq⟩ := y4 x x1 hlt
        rw [hq] at x3; cases x3
  rcases Nat.lt_trichotomy a b with h | h | h
  · exact absurd h (key ha hb)
  · exact h
  · exact absurd h (key hb ha)
theorem sx_least {post : Int32 → GS → Prop} (hi : pg W E D) (hx : xr E rg D S) (hp : ∀ e, fe E D.1 e → post (nI e) S) : wp_X_leastFreeEntry W E [] S post := by
  have hb := hi.1
  intro V hV
  have loop : ∀ (m i : Nat), i + m = E → (∀ k, 1 ≤ k → k ≤ i → ∃ q, D.1 k = some q) → V 2 S [nI (i + 1)] := by
    intro m
    induction m with
    | zero =>
      intro i h hk
      exact hV 2 S _ ⟨fun _ => hp 0 (Or.inl ⟨rfl, fun k k1 k2 => hk k k1 (by omega)⟩), fun h2 => absurd (nI_le (by omega) (by omega)) h2⟩
    | succ m ih =>
      intro i h hk
      refine hV 2 S _ ⟨fun h2 => absurd h2 (nI_ge (by omega) (by omega)), fun _ => ?_⟩
      refine sx_used hi.adr hx hb.2.2.2 (by omega) (by omega) (fun hd => ⟨fun h => zero_ne h, fun _ => hp (i + 1) (Or.inr ⟨by omega, by omega, hd, fun k k1 k2 => hk k k1 (by omega)⟩)⟩) (fun q hd => ⟨fun _ y3 e3 => ?_, fun h => one_ne h⟩)
      rw [nI_1] at e3; subst e3
      refine ih (i + 1) (by omega) (fun k k1 k2 => ?_)
      by_cases hki : k = i + 1
      · subst hki; exact ⟨q, hd⟩
      · exact hk k k1 (by omega)
  refine hV 0 S [] (fun y1 e1 => ?_)
  subst e1
  exact loop E 0 (Nat.zero_add _) (fun k k1 k2 => by omega)
theorem sm_least {z : Nat} {t : Int32} {post : Int32 → GS → Prop} (hE : E ≤ 40) (hm : mk W E z t rg D S) (hp : ∀ e, fe E D.1 e → post (nI e) S) : wp_M_freeEntry [] S post := by
  intro V hV
  have loop : ∀ (m i : Nat), i + m = E → (∀ k, 1 ≤ k → k ≤ i → ∃ q, D.1 k = some q) → V 2 S [nI (i + 1)] := by
    intro m
    induction m with
    | zero =>
      intro i h hk
      exact hV 2 S _ ⟨fun _ => hp 0 (Or.inl ⟨rfl, fun k k1 k2 => hk k k1 (by omega)⟩), fun h2 => absurd (by rw [hm.1.1.2]; exact nI_lt (by omega) (by omega)) h2⟩
    | succ m ih =>
      intro i h hk
      refine hV 2 S _ ⟨fun h2 => absurd h2 (by rw [hm.1.1.2]; exact nI_nlt (by omega) (by omega)), fun _ => ⟨vp_in_nI (by omega) (by decide), ?_⟩⟩
      rw [nI_clamp (by omega)]
      refine And.symm (hm.1.live (by omega) (by omega) (fun hd => hp (i + 1) (Or.inr ⟨by omega, by omega, hd, fun k k1 k2 => hk k k1 (by omega)⟩)) (fun q hd y3 e3 => ?_))
      rw [nI_1] at e3; subst e3
      refine ih (i + 1) (by omega) (fun k k1 k2 => ?_)
      by_cases hki : k = i + 1
      · subst hki; exact ⟨q, hd⟩
      · exact hk k k1 (by omega)
  refine hV 0 S [] (fun y1 e1 => ?_)
  subst e1
  exact loop E 0 (Nat.zero_add _) (fun k k1 k2 => by omega)
theorem mk.mono {z z' : Nat} {t : Int32} (h : z ≤ z') (hm : mk W E z t rg D S) : mk W E z' t rg D S := ⟨hm.1.mono (by omega), hm.2⟩
theorem ch_all_le {fr : List (Nat × Nat)} (h : ∀ c ∈ fr, c.2 ≤ 400) : ch_all fr ≤ 400 * fr.length := by
  induction fr with
  | nil => exact Nat.le_refl _
  | cons a l ih =>
    have h1 := ih (fun c hc => h c (List.mem_cons_of_mem _ hc))
    have h2 := h a List.mem_cons_self
    unfold ch_all at h1 ⊢
    rw [List.map_cons, List.sum_cons, List.length_cons]
    omega
theorem pg.all (hi : pg W E D) : ch_all D.2.2 < 2 ^ 30 := by
  have h1 := ch_all_le (fr := D.2.2) (fun c hc => by have := hi.2.2.2.1 c hc; have := hi.1; omega)
  have h2 := hi.2.len
  have := hi.1
  omega
/-- a piece of n words is cut from a chunk, if one holds so many -/
def cu_to (n : Nat) (D : PD) (r : Option Nat) (D' : PD) : Prop := (∃ (j : Nat) (c : Nat × Nat), ch_best D.2.2 n j ∧ D.2.2[j]? = some c ∧ r = some c.1 ∧ D' = (D.1, D.2.1, ch_cut D.2.2 j c n)) ∨ (ch_none D.2.2 n ∧ r = none ∧ D' = D)
/-- .. if need be after moving together -/
def pl_to (W n : Nat) (D : PD) (r : Option Nat) (D' : PD) : Prop := (∃ a, r = some a ∧ cu_to n D r D') ∨ (ch_none D.2.2 n ∧ ch_all D.2.2 < n ∧ r = none ∧ D' = D) ∨ (ch_none D.2.2 n ∧ ¬ ch_all D.2.2 < n ∧ ∃ (D1 : PD) (mv : Nat), pk_to W D D1 mv ∧ cu_to n D1 r D')
theorem best_none {fr : List (Nat × Nat)} {n j : Nat} (h : ch_best fr n j) (h2 : ch_none fr n) : False := by
  obtain ⟨c, c1, c2, -⟩ := h
  exact h2 j c c1 c2
theorem sx_cut {n : Nat} {post : Int32 → GS → Prop} (hi : pg W E D) (hx : xr E rg D S) (hn : n ≤ 22) (hp : ∀ (r : Option Nat) (D' : PD) (S' : GS), cu_to n D r D' → xr E rg D' S' → post (enc r) S') : wp_F_take W E [nI n] S post :=
  sf_take hi hx hn (fun h => hp none D S (Or.inr ⟨h, rfl, rfl⟩) hx) (fun j c h1 h2 S' hS' => hp (some c.1) _ S' (Or.inl ⟨j, c, h1, h2, rfl, rfl⟩) hS')
theorem cu_to.adr {n : Nat} {r : Option Nat} {D' : PD} (hi : pg W E D) (h : cu_to n D r D') {a : Nat} (ha : r = some a) : a < 400 := by
  rcases h with ⟨j, c, -, h2, h3, -⟩ | ⟨-, h3, -⟩
  · rw [h3] at ha; cases ha
    have := hi.2.2.2.1 c (List.mem_of_getElem? h2)
    have := hi.1
    omega
  · rw [h3] at ha; cases ha
theorem sx_place {n : Nat} {post : Int32 → GS → Prop} (hi : pinv W E rg D) (hx : xr E rg D S) (hn : n ≤ 22) (hp : ∀ (r : Option Nat) (D' : PD) (S' : GS), pl_to W n D r D' → xr E rg D' S' → post (enc r) S') : wp_X_place W E [nI n] S post := by
  have hb := hi.1
  intro V hV
  refine hV 0 S _ (sf_take hi.pg hx hn (fun h => ⟨fun h2 => absurd rfl h2, fun _ => ?_⟩) (fun j c h1 h2 S' hS' => ⟨fun _ => hp (some c.1) _ S' (Or.inl ⟨c.1, rfl, Or.inl ⟨j, c, h1, h2, rfl, rfl⟩⟩) hS', fun h3 => absurd h3 (nI_nm1 ?_)⟩))
  · have hall := hi.pg.all
    refine sf_all hx hi.2.1.len hb.2.1 ⟨fun h3 => hp none D S (Or.inr (Or.inl ⟨h, (nI_ltI (by omega) (by omega)).mp h3, rfl, rfl⟩)) hx, fun h3 => ?_⟩
    obtain ⟨D1, mv, hto⟩ := pk_to.ex hi.2.1
    refine sx_move hi.1 hi.2.1 hx hto (fun S5 hx5 => sx_cut (hto.inv hi).pg hx5 hn (fun r D' S' hc hS' => hp r D' S' (Or.inr (Or.inr ⟨h, mt (nI_ltI (by omega) (by omega)).mpr h3, D1, mv, hto, hc⟩)) hS'))
  · have := hi.2.1.2.2.1 c (List.mem_of_getElem? h2)
    omega
theorem sm_cutTo {z n : Nat} {t : Int32} {r : Option Nat} {D' : PD} {post : Int32 → GS → Prop} (hi : pg W E D) (hm : mk W E z t rg D S) (hz : z ≤ 2 ^ 30) (hn : n ≤ 22) (h : cu_to n D r D') (hp : ∀ S' : GS, mk W E (z + 1) t rg D' S' → post (enc r) S') : wp_M_fitting [nI n] S (fun r24 S23 => ((0 ≤ r24 → cutM post (nI n) r24 S23) ∧ (¬ 0 ≤ r24 → post (-1) S23))) := by
  have hb := hi.1
  have hl := hi.2.len
  obtain ⟨c, P, Z, m1, m2, m3, m4, m5, m6, m7, m8⟩ := hm.1.2.2.2.2
  have hPl : P.length = D.2.2.length := by rw [m5.length_eq, ← m8, List.length_map]
  refine sm_fitting (c := c) (P := P) (Z := Z) (fr := D.2.2) (fun x hx => by have := hi.2.2.2.1 x hx; omega) (by omega) (by omega) (by omega) m3 m4 m5 m6 m7 m8 (fun h0 => ⟨fun h2 => absurd h2 (by decide), fun _ => ?_⟩) (fun p jz d h1 h2 h3 => ⟨fun _ => ?_, fun h4 => absurd (nI_pos' (by have := (List.getElem?_eq_some_iff.mp h1).1; omega)) h4⟩)
  · rcases h with ⟨j, c', b1, -⟩ | ⟨-, rfl, rfl⟩
    · exact (best_none b1 h0).elim
    · exact hp S (hm.mono (by omega))
  · have hdz : D.2.2[jz]? = some (d.1, d.2.1) := by rw [← m8, List.getElem?_map, h2]; rfl
    rcases h with ⟨j, c', b1, b2, rfl, rfl⟩ | ⟨b1, -, -⟩
    · have := b1.uniq h3
      subst this
      rw [hdz] at b2; cases b2
      obtain ⟨c2, e1, e2, -⟩ := h3
      rw [hdz] at e1; cases e1
      exact sm_cut hi hm m1 m2 m3 m4 m5 m6 m7 m8 e2 h1 h2 hp
    · exact (best_none h3 b1).elim
theorem sm_place {z n : Nat} {t : Int32} {r : Option Nat} {D' : PD} {post : Int32 → GS → Prop} (hi : pinv W E rg D) (hm : mk W E z t rg D S) (hz : z ≤ 2 ^ 29) (hn : n ≤ 22) (h : pl_to W n D r D') (hp : ∀ S' : GS, mk W E (z + 401) t rg D' S' → post (enc r) S') : wp_M_place [nI n] S post := by
  have hb := hi.1
  have hl := hi.2.1.len
  have hall := hi.pg.all
  intro V hV
  obtain ⟨c, P, Z, m1, m2, m3, m4, m5, m6, m7, m8⟩ := hm.1.2.2.2.2
  have hPl : P.length = D.2.2.length := by rw [m5.length_eq, ← m8, List.length_map]
  refine hV 0 S _ (sm_fitting (c := c) (P := P) (Z := Z) (fr := D.2.2) (fun x hx => by have := hi.2.1.2.2.1 x hx; omega) (by omega) (by omega) (by omega) m3 m4 m5 m6 m7 m8 (fun h0 => ⟨fun h2 => absurd h2 (by decide), fun _ => ?_⟩) (fun p jz d h1 h2 h3 => ⟨fun _ => ⟨fun _ => ?_, fun h4 => absurd (nI_pos' (by have := (List.getElem?_eq_some_iff.mp h1).1; omega)) h4⟩, fun h4 => absurd (nI_pos' (by have := (List.getElem?_eq_some_iff.mp h1).1; omega)) h4⟩))
  · refine sm_freeWords hm.1 (by omega) ⟨fun h3 => ⟨fun h2 => absurd h2 (by decide), fun _ => ?_⟩, fun h3 => ?_⟩
    · have h3' := (nI_ltI (a := ch_all D.2.2) (b := n) (by omega) (by omega)).mp h3
      rcases h with ⟨a, rfl, hc⟩ | ⟨-, -, rfl, rfl⟩ | ⟨-, h5, -⟩
      · rcases hc with ⟨j, c', b1, -⟩ | ⟨-, b1, -⟩
        · exact (best_none b1 h0).elim
        · cases b1
      · exact hp S (hm.mono (by omega))
      · exact absurd h3' h5
    · have h3' := mt (nI_ltI (a := ch_all D.2.2) (b := n) (by omega) (by omega)).mpr h3
      rcases h with ⟨a, rfl, hc⟩ | ⟨-, h5, -⟩ | ⟨-, -, D1, mv, hto, hc⟩
      · rcases hc with ⟨j, c', b1, -⟩ | ⟨-, b1, -⟩
        · exact (best_none b1 h0).elim
        · cases b1
      · exact absurd h5 h3'
      · exact sm_pack hi.1 hi.2.1 hm hto (fun S2 hm2 => sm_cutTo (hto.inv hi).pg hm2 (by omega) hn hc hp)
  · have hdz : D.2.2[jz]? = some (d.1, d.2.1) := by rw [← m8, List.getElem?_map, h2]; rfl
    have hcut : ∀ {D'' : PD} {r'' : Option Nat}, cu_to n D r'' D'' → (∀ S' : GS, mk W E (z + 401) t rg D'' S' → post (enc r'') S') → cutM post (nI n) (nI p) S := fun {D'' r''} hc hpp => by
      rcases hc with ⟨j, c', b1, b2, rfl, rfl⟩ | ⟨b1, -, -⟩
      · have := b1.uniq h3
        subst this
        rw [hdz] at b2; cases b2
        obtain ⟨c2, e1, e2, -⟩ := h3
        rw [hdz] at e1; cases e1
        exact sm_cut hi.pg hm m1 m2 m3 m4 m5 m6 m7 m8 e2 h1 h2 (fun S' hS' => hpp S' (hS'.mono (by omega)))
      · exact (best_none h3 b1).elim
    rcases h with ⟨a, -, hc⟩ | ⟨h5, -⟩ | ⟨h5, -⟩
    · exact hcut hc hp
    · exact (best_none h3 h5).elim
    · exact (best_none h3 h5).elim
/-- n words from a on are nobody's -/
def room (W : Nat) (D : PD) (a n : Nat) : Prop := a + n ≤ W ∧ (∀ (e : Nat) (q : PO), D.1 e = some q → q.1 + (q.2.length + 1) ≤ a ∨ a + n ≤ q.1) ∧ (∀ c ∈ D.2.2, c.1 + c.2 ≤ a ∨ a + n ≤ c.1)
theorem cu_to.inv {n : Nat} {r : Option Nat} {D' : PD} (hn : 1 ≤ n) (hi : pinv W E rg D) (h : cu_to n D r D') : pinv W E rg D' ∧ D'.1 = D.1 ∧ ∀ a, r = some a → room W D' a n := by
  rcases h with ⟨j, c, h1, h2, rfl, rfl⟩ | ⟨-, rfl, rfl⟩
  · obtain ⟨g1, g2, g3, g4, g5⟩ := hi.2.1
    obtain ⟨c', c1, c2, -⟩ := h1
    rw [h2] at c1; cases c1
    have hcm := List.mem_of_getElem? h2
    have hcg := g3 c hcm
    have hpw : (c :: D.2.2.eraseIdx j).Pairwise (fun c d => c.1 + c.2 ≤ d.1 ∨ d.1 + d.2 ≤ c.1) := ((er_perm D.2.2 j c h2).pairwise_iff (fun {x y} h => by omega)).mpr g4
    obtain ⟨hpc, hpe⟩ := List.pairwise_cons.mp hpw
    have hsub : ∀ d ∈ D.2.2.eraseIdx j, d ∈ D.2.2 := fun d hd => (List.eraseIdx_sublist _ _).subset hd
    have hmem : ∀ d, d ∈ ch_cut D.2.2 j c n → d ∈ D.2.2.eraseIdx j ∨ (n < c.2 ∧ d = (c.1 + n, c.2 - n)) := fun d hd => by
      unfold ch_cut at hd
      rcases List.mem_append.mp hd with hd | hd
      · exact Or.inl hd
      · split at hd
        · exact Or.inr ⟨by assumption, List.mem_singleton.mp hd⟩
        · cases hd
    refine ⟨⟨hi.1, ⟨g1, g2, fun d hd => ?_, ?_, fun e q d he hd => ?_⟩, hi.2.2⟩, rfl, fun a ha => ?_⟩
    · rcases hmem d hd with hd | ⟨h3, rfl⟩
      · exact g3 d (hsub d hd)
      · exact ⟨by show 1 ≤ c.2 - n; omega, by show c.1 + n + (c.2 - n) ≤ W; omega⟩
    · show (ch_cut D.2.2 j c n).Pairwise _
      unfold ch_cut
      rw [List.pairwise_append]
      refine ⟨hpe, ?_, fun x hx y hy => ?_⟩
      · split
        · exact List.pairwise_singleton _ _
        · exact List.Pairwise.nil
      · split at hy
        · rw [List.mem_singleton.mp hy]
          have := hpc x hx
          show x.1 + x.2 ≤ c.1 + n ∨ c.1 + n + (c.2 - n) ≤ x.1
          omega
        · cases hy
    · rcases hmem d hd with hd | ⟨h3, rfl⟩
      · exact g5 e q d he (hsub d hd)
      · have := g5 e q c he hcm
        show q.1 + (q.2.length + 1) ≤ c.1 + n ∨ c.1 + n + (c.2 - n) ≤ q.1
        omega
    · cases ha
      refine ⟨by omega, fun e q he => ?_, fun d hd => ?_⟩
      · have := g5 e q c he hcm
        omega
      · rcases hmem d hd with hd | ⟨h3, rfl⟩
        · have := hpc d hd
          omega
        · exact Or.inr (Nat.le_refl _)
  · exact ⟨hi, rfl, fun a ha => by cases ha⟩
theorem pk_to.some {D' : PD} {mv : Nat} (hg : pu_geo W E D.1 D.2.2) (h : pk_to W D D' mv) : ∀ i, (D'.1 i).isSome = (D.1 i).isSome := fun i => by
  obtain ⟨m, p', ob', hr, rfl⟩ := h
  have := (hr.end (W := W) (E := E) m 0 0 D.1 (pk_inv.start hg)).2.2 i
  show (ob' i).isSome = _
  cases h1 : ob' i with
  | none => cases h2 : D.1 i with
    | none => rfl
    | some o => rw [h1, h2] at this; cases this
  | some q => cases h2 : D.1 i with
    | none => rw [h1, h2] at this; cases this
    | some o => rfl
theorem pl_to.inv {n : Nat} {r : Option Nat} {D' : PD} (hn : 1 ≤ n) (hi : pinv W E rg D) (h : pl_to W n D r D') : pinv W E rg D' ∧ (∀ i, (D'.1 i).isSome = (D.1 i).isSome) ∧ ∀ a, r = some a → room W D' a n := by
  rcases h with ⟨a, -, hc⟩ | ⟨-, -, rfl, rfl⟩ | ⟨-, -, D1, mv, hto, hc⟩
  · obtain ⟨h1, h2, h3⟩ := hc.inv hn hi
    exact ⟨h1, fun i => by rw [h2], h3⟩
  · exact ⟨hi, fun _ => rfl, fun a ha => by cases ha⟩
  · obtain ⟨h1, h2, h3⟩ := hc.inv hn (hto.inv hi)
    exact ⟨h1, fun i => by rw [h2]; exact hto.some hi.2.1 i, h3⟩
theorem pval.same {D' : PD} {v : Int32} (h : pval E D v) (hs : ∀ i, (D'.1 i).isSome = (D.1 i).isSome) : pval E D' v := by
  rcases h with h | h | ⟨e, q, a, b, c, d⟩
  · exact Or.inl h
  · exact Or.inr (Or.inl h)
  · have : (D'.1 e).isSome = true := by rw [hs, d]; rfl
    obtain ⟨p, hp⟩ := Option.isSome_iff_exists.mp this
    exact Or.inr (Or.inr ⟨e, p, a, b, c, hp⟩)
theorem co_to.val {v : Int32} {D' : PD} {g : Nat} (hE : E ≤ 40) (hv : pval E D v) (h : co_to E rg v D D' g) : pval E D' v := by
  rcases hv with hv | hv | ⟨e, q, a, b, c, d⟩
  · exact Or.inl hv
  · exact Or.inr (Or.inl hv)
  · refine Or.inr (Or.inr ⟨e, q, a, b, c, ?_⟩)
    rw [h.live (re_set.root (Or.inr (by rw [c]; exact ent_of hE a b d)))]
    exact d
theorem co_to.dead {v : Int32} {D' : PD} {g e : Nat} (h : co_to E rg v D D' g) (hd : D.1 e = none) : D'.1 e = none := by
  obtain ⟨Rb, -, -, rfl⟩ := h
  show (sw Rb E D).1 e = none
  rw [sw_ob, hd]
  split <;> rfl
/-- a new object -/
def pu_make (E : Nat) (D : PD) (e a n : Nat) (ty : Int32) : PD := (va_up D.1 e (some (a, ty :: List.replicate n 0)), va_up (pu_add E D ty).2.1 e 0, D.2.2)
theorem make_get {n i : Nat} {ty w : Int32} (h : (ty :: List.replicate n (0 : Int32))[i]? = some w) : (i = 0 ∧ w = ty) ∨ (∃ j, j < n ∧ i = j + 1 ∧ w = 0) := by
  cases i with
  | zero => cases h; exact Or.inl ⟨rfl, rfl⟩
  | succ i =>
    have h' : (List.replicate n (0 : Int32))[i]? = some w := h
    have hl := (List.getElem?_eq_some_iff.mp h').1
    rw [List.length_replicate] at hl
    rw [List.getElem?_replicate, if_pos hl] at h'
    cases h'
    exact Or.inr ⟨i, hl, rfl, rfl⟩
theorem make_len {n : Nat} {ty : Int32} : (ty :: List.replicate n (0 : Int32)).length = n + 1 := by rw [List.length_cons, List.length_replicate]
theorem make_inv {e a n : Nat} {ty : Int32} (hi : pinv W E rg D) (hv : pval E D ty) (hr : room W D a (n + 2)) (e1 : 1 ≤ e) (e2 : e ≤ E) (hd : D.1 e = none) (hn : n ≤ 20) : pinv W E rg (pu_make E D e a n ty) := by
  have hb := hi.1
  have hE : E < 2 ^ 29 := by omega
  obtain ⟨g1, g2, g3, g4, g5⟩ := hi.2.1
  have key : ∀ (k : Nat) (o : PO), va_up D.1 e (some (a, ty :: List.replicate n 0)) k = some o → (k = e ∧ o = (a, ty :: List.replicate n 0)) ∨ (k ≠ e ∧ D.1 k = some o) := fun k o hk => by
    by_cases hke : k = e
    · subst hke; rw [va_up_self] at hk; cases hk; exact Or.inl ⟨rfl, rfl⟩
    · rw [va_up_ne _ _ hke] at hk; exact Or.inr ⟨hke, hk⟩
  have hlen : (ty :: List.replicate n (0 : Int32)).length = n + 1 := make_len
  have hty : ty ≠ nI (2 * e) := fun z => by
    rcases hv with h | h | ⟨k, q, k1, k2, k3, k4⟩
    · rw [z] at h; exact absurd h (nI_ne0 (by omega) (by omega))
    · rw [z] at h; exact absurd (nu_even (by omega)) h
    · have := pu_inj hE k2 e2 (by rw [← k3, z])
      subst this
      rw [hd] at k4; cases k4
  have hrefs : ∀ k, 1 ≤ k → k ≤ E → pu_refs E rg (va_up D.1 e (some (a, ty :: List.replicate n 0))) (fun _ => false) k = pu_refs E rg D.1 (fun _ => false) k + (if ty = nI (2 * k) then 1 else 0) := fun k k1 k2 => by
    have h4 := pu_sum_up (f := fun i => if (fun _ => false : Nat → Bool) i = true then 0 else (pu_ws (va_up D.1 e (some (a, ty :: List.replicate n 0))) i).count (nI (2 * k))) (g := fun i => if (fun _ => false : Nat → Bool) i = true then 0 else (pu_ws D.1 i).count (nI (2 * k))) e1 e2 (fun i _ _ hi => by
      unfold pu_ws
      simp only [va_up_ne _ _ hi])
    have h5 : pu_ws (va_up D.1 e (some (a, ty :: List.replicate n 0))) e = ty :: List.replicate n 0 := by
      unfold pu_ws
      rw [va_up_self]; rfl
    have h6 : pu_ws D.1 e = [] := by
      unfold pu_ws
      rw [hd]; rfl
    have h7 : (List.replicate n (0 : Int32)).count (nI (2 * k)) = 0 := by
      refine List.count_eq_zero.mpr (fun hm => ?_)
      have := (List.mem_replicate.mp hm).2
      exact absurd this (nI_ne0 (by omega) (by omega))
    simp only [h5, h6, Bool.false_eq_true, if_false, cnt_cons, h7, List.count_nil] at h4
    unfold pu_refs
    simp only [Bool.false_eq_true, if_false]
    omega
  have hadd := pu_add_CI hE hi.2.2.1 hv hi.2.2.2.1
  refine ⟨hi.1, ⟨fun k o hk => ?_, fun k k' o o' hk hk' hne => ?_, g3, g4, fun k o c hk hc => ?_⟩, fun k => ?_, ⟨fun k k1 k2 k3 => ?_, fun k k1 k2 k3 => ?_, fun i h => (by cases h)⟩, hi.2.2.2.2.1, fun k o hk w hw => ?_⟩
  · rcases key k o hk with ⟨rfl, rfl⟩ | ⟨h1, h2⟩
    · have := hr.1
      refine ⟨e1, e2, ?_, ?_, ?_⟩ <;> (dsimp only; rw [hlen]; omega)
    · exact g1 k o h2
  · rcases key k o hk with ⟨rfl, rfl⟩ | ⟨h1, h2⟩
    · rcases key k' o' hk' with ⟨rfl, rfl⟩ | ⟨h1', h2'⟩
      · exact absurd rfl hne
      · have := hr.2.1 k' o' h2'
        dsimp only
        rw [hlen]
        omega
    · rcases key k' o' hk' with ⟨rfl, rfl⟩ | ⟨h1', h2'⟩
      · have := hr.2.1 k o h2
        dsimp only
        rw [hlen]
        omega
      · exact g2 k k' o o' h2 h2' hne
  · rcases key k o hk with ⟨rfl, rfl⟩ | ⟨h1, h2⟩
    · have := hr.2.2 c hc
      dsimp only
      rw [hlen]
      omega
    · exact g5 k o c h2 hc
  · show va_up (pu_add E D ty).2.1 e 0 k ≤ 7
    by_cases hke : k = e
    · subst hke; rw [va_up_self]; omega
    · rw [va_up_ne _ _ hke]; exact pu_add_7 ty hi.2.2.1 k
  · show va_up (pu_add E D ty).2.1 e 0 k = 7 ∨ va_up (pu_add E D ty).2.1 e 0 k = pu_refs E rg (va_up D.1 e (some (a, ty :: List.replicate n 0))) (fun _ => false) k + 0
    rw [hrefs k k1 k2]
    by_cases hke : k = e
    · subst hke
      have := hi.2.2.2.1.2.1 k k1 k2 (by rw [hd]; rfl)
      rw [va_up_self, if_neg hty]
      omega
    · rw [va_up_ne _ _ hke]
      have k3' : (D.1 k).isSome = true := by
        have h : (va_up D.1 e (some (a, ty :: List.replicate n 0)) k).isSome = true := k3
        rw [va_up_ne _ _ hke] at h; exact h
      have := hadd.1 k k1 k2 (by rw [pu_add_ob]; exact k3')
      rw [pu_add_ob, cnt_cons, List.count_nil] at this
      omega
  · show pu_refs E rg (va_up D.1 e (some (a, ty :: List.replicate n 0))) (fun _ => false) k + 0 = 0
    have hke : k ≠ e := fun z => by
      subst z
      have h : (va_up D.1 k (some (a, ty :: List.replicate n 0)) k).isSome = false := k3
      rw [va_up_self] at h; cases h
    have k3' : (D.1 k).isSome = false := by
      have h : (va_up D.1 e (some (a, ty :: List.replicate n 0)) k).isSome = false := k3
      rw [va_up_ne _ _ hke] at h; exact h
    rw [hrefs k k1 k2]
    have := hadd.2.1 k k1 k2 (by rw [pu_add_ob]; exact k3')
    rw [pu_add_ob, cnt_cons, List.count_nil] at this
    omega
  · rcases key k o hk with ⟨rfl, rfl⟩ | ⟨h1, h2⟩
    · rcases List.mem_cons.mp hw with rfl | hw
      · exact hv.pv
      · rw [(List.mem_replicate.mp hw).2]; exact Or.inl rfl
    · exact hi.2.2.2.2.2 k o h2 w hw
theorem make_add {e a n : Nat} {ty : Int32} (hE : E < 2 ^ 29) (hv : pval E D ty) (e1 : 1 ≤ e) (e2 : e ≤ E) (hd : D.1 e = none) : pu_add E (va_up D.1 e (some (a, ty :: List.replicate n 0)), va_up D.2.1 e 0, D.2.2) ty = pu_make E D e a n ty := by
  have hty : ty ≠ nI (2 * e) := fun z => by
    rcases hv with h | h | ⟨k, q, k1, k2, k3, k4⟩
    · rw [z] at h; exact absurd h (nI_ne0 (by omega) (by omega))
    · rw [z] at h; exact absurd (nu_even (by omega)) h
    · have := pu_inj hE k2 e2 (by rw [← k3, z])
      subst this
      rw [hd] at k4; cases k4
  unfold pu_make
  cases hn : pu_ent E D.1 ty with
  | none =>
    have : pu_ent E (va_up D.1 e (some (a, ty :: List.replicate n 0))) ty = none := by
      refine (pu_ent_none hE).mpr (fun k k1 k2 k3 => ?_)
      have hke : k ≠ e := fun z => hty (by rw [k3, z])
      rw [va_up_ne _ _ hke]
      exact (pu_ent_none hE).mp hn k k1 k2 k3
    rw [pu_add_none hn, pu_add_none (D := (va_up D.1 e (some (a, ty :: List.replicate n 0)), va_up D.2.1 e 0, D.2.2)) this]
  | some k =>
    obtain ⟨k1, k2, k3, k4⟩ := (pu_ent_some hE).mp hn
    have hke : k ≠ e := fun z => hty (by rw [k3, z])
    have : pu_ent E (va_up D.1 e (some (a, ty :: List.replicate n 0))) ty = some k := by
      refine (pu_ent_some hE).mpr ⟨k1, k2, k3, ?_⟩
      rw [va_up_ne _ _ hke]; exact k4
    rw [pu_add_some hn, pu_add_some (D := (va_up D.1 e (some (a, ty :: List.replicate n 0)), va_up D.2.1 e 0, D.2.2)) this]
    have hk0 : va_up D.2.1 e 0 k = D.2.1 k := va_up_ne _ _ hke
    dsimp only
    by_cases h7 : D.2.1 k < 7
    · rw [if_pos (by rw [hk0]; exact h7), if_pos h7, hk0]
      refine Prod.ext rfl (Prod.ext ?_ rfl)
      funext x
      show va_up (va_up D.2.1 e 0) k (D.2.1 k + 1) x = va_up (va_up D.2.1 k (D.2.1 k + 1)) e 0 x
      by_cases hx : x = k
      · subst hx; rw [va_up_self, va_up_ne _ _ hke, va_up_self]
      · rw [va_up_ne _ _ hx]
        by_cases hxe : x = e
        · subst hxe; rw [va_up_self, va_up_self]
        · rw [va_up_ne _ _ hxe, va_up_ne _ _ hxe, va_up_ne _ _ hx]
    · rw [if_neg (by rw [hk0]; exact h7), if_neg h7]
theorem xr.make {S' : GS} {e a n : Nat} {ty : Int32} (hx : xr E rg D S) (hr : room W D a (n + 2)) (hd : D.1 e = none) (r3 : S' 3 = S 3) (r1 : S' 1 = upd (S 1) e (nI a)) (r2 : S' 2 = upd (S 2) e 0) (r100 : S' 100 0 = S 100 0) (r6 : S' 6 = S 6) (r7 : S' 7 = S 7) (w0 : S' 0 a = nI n) (w1 : S' 0 (a + 1) = ty) (w2 : ∀ j, j < n → S' 0 (a + 2 + j) = 0) (wo : ∀ x, x < a ∨ a + (n + 2) ≤ x → S' 0 x = S 0 x) : xr E rg (va_up D.1 e (some (a, ty :: List.replicate n 0)), va_up D.2.1 e 0, D.2.2) S' := by
  obtain ⟨h1, h2, h3, h4, h5⟩ := hx
  refine ⟨by rw [r3]; exact h1, fun k k1 k2 hk => ?_, fun k o hk => ?_, by rw [r100]; exact h4, by rw [r6, r7]; exact h5⟩
  · have hk' : va_up D.1 e (some (a, ty :: List.replicate n 0)) k = none := hk
    have hke : k ≠ e := fun z => by subst z; rw [va_up_self] at hk'; cases hk'
    rw [va_up_ne _ _ hke] at hk'
    rw [r1, pk_un hke]; exact h2 k k1 k2 hk'
  · have hk' : va_up D.1 e (some (a, ty :: List.replicate n 0)) k = some o := hk
    by_cases hke : k = e
    · subst hke
      rw [va_up_self] at hk'
      cases hk'
      refine ⟨by rw [r1]; exact pk_us, ?_, fun i w hw => ?_, ?_⟩
      · show S' 0 a = nI ((ty :: List.replicate n (0 : Int32)).length - 1)
        rw [make_len]; exact w0
      · show S' 0 (a + 1 + i) = w
        rcases make_get hw with ⟨rfl, rfl⟩ | ⟨j, hj, rfl, rfl⟩
        · exact w1
        · rw [show a + 1 + (j + 1) = a + 2 + j by omega]; exact w2 j hj
      · show S' 2 k = nI (va_up D.2.1 k 0 k)
        rw [r2, pk_us, va_up_self]; rfl
    · rw [va_up_ne _ _ hke] at hk'
      obtain ⟨x1, x2, x3, x4⟩ := h3 k o hk'
      have hdis := hr.2.1 k o hk'
      refine ⟨by rw [r1, pk_un hke]; exact x1, ?_, fun i w hw => ?_, ?_⟩
      · rw [wo o.1 (by omega)]; exact x2
      · have hil := (List.getElem?_eq_some_iff.mp hw).1
        rw [wo (o.1 + 1 + i) (by omega)]; exact x3 i w hw
      · show S' 2 k = nI (va_up D.2.1 e 0 k)
        rw [r2, pk_un hke, va_up_ne _ _ hke]; exact x4
theorem mr.make {z : Nat} {S' : GS} {e a n : Nat} {ty : Int32} (hm : mr W E z rg D S) (hr : room W D a (n + 2)) (hd : D.1 e = none) (r0 : S' 0 = S 0) (r1 : S' 1 = upd (S 1) e 1) (r2 : S' 2 = upd (S 2) e (nI a)) (r3 : S' 3 = upd (S 3) e (nI n)) (r4 : S' 4 = upd (S 4) e 0) (r100 : S' 100 = S 100) (r6 : S' 6 = S 6) (r7 : S' 7 = S 7) (r8 : S' 8 = S 8) (w1 : S' 5 (a + 1) = ty) (w2 : ∀ j, j < n → S' 5 (a + 2 + j) = 0) (wo : ∀ x, x < a ∨ a + (n + 2) ≤ x → S' 5 x = S 5 x) : mr W E z rg (va_up D.1 e (some (a, ty :: List.replicate n 0)), va_up D.2.1 e 0, D.2.2) S' := by
  obtain ⟨h0, h1, h2, h3, h5⟩ := hm
  refine ⟨by rw [r100]; exact h0, by rw [r0]; exact h1, fun k k1 k2 hk => ?_, fun k o hk => ?_, ?_⟩
  · have hk' : va_up D.1 e (some (a, ty :: List.replicate n 0)) k = none := hk
    have hke : k ≠ e := fun z => by subst z; rw [va_up_self] at hk'; cases hk'
    rw [va_up_ne _ _ hke] at hk'
    rw [r1, pk_un hke]; exact h2 k k1 k2 hk'
  · have hk' : va_up D.1 e (some (a, ty :: List.replicate n 0)) k = some o := hk
    by_cases hke : k = e
    · subst hke
      rw [va_up_self] at hk'
      cases hk'
      refine ⟨by rw [r1]; exact pk_us, by rw [r2]; exact pk_us, ?_, fun i w hw => ?_, ?_⟩
      · show S' 3 k = nI ((ty :: List.replicate n (0 : Int32)).length - 1)
        rw [make_len, r3]; exact pk_us
      · show S' 5 (a + 1 + i) = w
        rcases make_get hw with ⟨rfl, rfl⟩ | ⟨j, hj, rfl, rfl⟩
        · exact w1
        · rw [show a + 1 + (j + 1) = a + 2 + j by omega]; exact w2 j hj
      · show S' 4 k = nI (va_up D.2.1 k 0 k)
        rw [r4, pk_us, va_up_self]; rfl
    · rw [va_up_ne _ _ hke] at hk'
      obtain ⟨x0, x1, x2, x3, x4⟩ := h3 k o hk'
      have hdis := hr.2.1 k o hk'
      refine ⟨by rw [r1, pk_un hke]; exact x0, by rw [r2, pk_un hke]; exact x1, by rw [r3, pk_un hke]; exact x2, fun i w hw => ?_, ?_⟩
      · have hil := (List.getElem?_eq_some_iff.mp hw).1
        rw [wo (o.1 + 1 + i) (by omega)]; exact x3 i w hw
      · show S' 4 k = nI (va_up D.2.1 e 0 k)
        rw [r4, pk_un hke, va_up_ne _ _ hke]; exact x4
  · obtain ⟨c, P, Z, m1, m2, m3, m4, m5, m6, m7, m8⟩ := h5
    exact ⟨c, P, Z, m1, by rw [r100]; exact m2, by rw [r100]; exact m3, by rw [r6, r7, r8]; exact m4, m5, m6, m7, m8⟩
theorem sx_make {e a n : Nat} {ty : Int32} {post : GS → Prop} (hi : pinv W E rg D) (hx : xr E rg D S) (hv : pval E D ty) (hr : room W D a (n + 2)) (e1 : 1 ≤ e) (e2 : e ≤ E) (hd : D.1 e = none) (hn : n ≤ 20) (hp : ∀ S' : GS, xr E rg (pu_make E D e a n ty) S' → post S') : wp_X_makeObject W E [nI e, nI a, ty, nI n] S post := by
  have hb := hi.1
  have ha := hr.1
  intro V hV
  refine hV 0 S _ (sx_add hi.pg hi.2.2.1 hx (fun S1 hx1 _ => ⟨vp_in_nI (by omega) (by omega), fun S3 q3 => ⟨vp_in_nI (by omega) (by omega), fun S4 q4 => ⟨vp_in_nI (by omega) (by omega), fun S5 q5 => ?_⟩⟩⟩))
  rw [nI_1, nI_clamp (by omega)]
  refine ⟨vp_in_nI (by omega) (by omega), fun S6 q6 y7 e7 => ?_⟩
  rw [nI_clamp (by omega)] at q3 q4 q5
  subst e7
  have hob : (pu_add E D ty).1 = D.1 := pu_add_ob ty
  have hfr : (pu_add E D ty).2.2 = D.2.2 := pu_add_fr ty
  have r0 : S6 0 = upd (upd (S1 0) a (nI n)) (a + 1) ty := by rw [q6, q5, q4, q3]; rfl
  have r1 : S6 1 = upd (S1 1) e (nI a) := by rw [q6, q5, q4, q3]; rfl
  have r2 : S6 2 = upd (S1 2) e 0 := by rw [q6, q5, q4, q3]; rfl
  have ro : S6 3 = S1 3 ∧ S6 100 0 = S1 100 0 ∧ S6 6 = S1 6 ∧ S6 7 = S1 7 := by rw [q6, q5, q4, q3]; exact ⟨rfl, rfl, rfl, rfl⟩
  clear q3 q4 q5 q6
  have loop : ∀ (m k : Nat) (S : GS), k + m = n → (∀ b, b ≠ 0 → S b = S6 b) → S 0 a = nI n → S 0 (a + 1) = ty → (∀ j, j < k → S 0 (a + 2 + j) = 0) → (∀ x, x < a ∨ a + (n + 2) ≤ x → S 0 x = S1 0 x) → V 39 S [nI e, nI a, ty, nI n, nI k] := by
    intro m
    induction m with
    | zero =>
      intro k S hk hb0 w0 w1 w2 wo
      have : k = n := by omega
      subst this
      refine hV 39 S _ ⟨fun _ => hp S ?_, fun h => absurd (Int32.le_refl _) h⟩
      have := xr.make (W := W) (D := pu_add E D ty) (S' := S) (e := e) (a := a) (n := k) (ty := ty) hx1 ⟨hr.1, by rw [hob]; exact hr.2.1, by rw [hfr]; exact hr.2.2⟩ (by rw [hob]; exact hd) ((hb0 3 (by decide)).trans ro.1) ((hb0 1 (by decide)).trans r1) ((hb0 2 (by decide)).trans r2) (by rw [hb0 100 (by decide)]; exact ro.2.1) ((hb0 6 (by decide)).trans ro.2.2.1) ((hb0 7 (by decide)).trans ro.2.2.2) w0 w1 w2 wo
      rw [hob, hfr] at this
      exact this
    | succ m ih =>
      intro k S hk hb0 w0 w1 w2 wo
      refine hV 39 S _ ⟨fun h => absurd h (nI_ge (by omega) (by omega)), fun _ => ?_⟩
      rw [show (2 : Int32) = nI 2 from rfl, nI_add, nI_add, nI_clamp (by omega)]
      refine ⟨vp_in_nI (by omega) (by omega), fun S1' q1 y2 q2 => ?_⟩
      rw [nI_1] at q2; subst q2
      have t0 : S1' 0 = upd (S 0) (a + 2 + k) 0 := by rw [q1]; rfl
      refine ih (k + 1) S1' (by omega) (fun b hb1 => ?_) (by rw [t0, pk_un (by omega)]; exact w0) (by rw [t0, pk_un (by omega)]; exact w1) (fun j hj => ?_) (fun x hx => by rw [t0, pk_un (by omega)]; exact wo x hx)
      · rw [q1]
        show (if b = 0 then _ else S b) = S6 b
        rw [if_neg hb1]; exact hb0 b hb1
      · rw [t0]
        by_cases hjk : j = k
        · subst hjk; exact pk_us
        · rw [pk_un (by omega)]; exact w2 j (by omega)
  refine loop n 0 S6 (Nat.zero_add _) (fun _ _ => rfl) ?_ ?_ (fun j hj => absurd hj (Nat.not_lt_zero j)) (fun x hx => ?_)
  · rw [r0, pk_un (by omega), pk_us]
  · rw [r0, pk_us]
  · rw [r0, pk_un (by omega), pk_un (by omega)]
end IN
