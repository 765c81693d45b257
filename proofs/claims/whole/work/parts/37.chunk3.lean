/-! The reference's own search for a chunk, and what it takes of it. -/
section CH3
variable {W E : Nat} {rg : Nat → Int32} {D : PD} {S : GS}
/-- what is seen below place i -/
def fi_seen (P : List (Nat × Nat × Nat)) (n i : Nat) : Option Nat → Prop
  | none => ∀ (k : Nat) (d : Nat × Nat × Nat), k < i → P[k]? = some d → ¬ n ≤ d.2.1
  | some j => ∃ c, P[j]? = some c ∧ j < i ∧ n ≤ c.2.1 ∧ ∀ (k : Nat) (d : Nat × Nat × Nat), k < i → P[k]? = some d → n ≤ d.2.1 → c.2.1 < d.2.1 ∨ (c.2.1 = d.2.1 ∧ d.2.2 ≤ c.2.2)
theorem sm_fitting {c n : Nat} {P Z : List (Nat × Nat × Nat)} {fr : List (Nat × Nat)} {post : Int32 → GS → Prop} (hfr : ∀ x ∈ fr, x.2 ≤ 400) (hl : P.length ≤ 400) (hc : c < 2 ^ 31) (hn : n < 2 ^ 31) (m3 : S 100 3 = nI P.length) (m4 : ∀ (i : Nat) (q : Nat × Nat × Nat), P[i]? = some q → S 6 i = nI q.1 ∧ S 7 i = nI q.2.1 ∧ S 8 i = nI q.2.2) (m5 : P.Perm Z) (m6 : Z.Pairwise (fun a b => a.2.2 < b.2.2)) (m7 : ∀ q ∈ Z, q.2.2 < c) (m8 : Z.map (fun q => (q.1, q.2.1)) = fr) (h0 : ch_none fr n → post (-1) S) (h1 : ∀ (p jz : Nat) (d : Nat × Nat × Nat), P[p]? = some d → Z[jz]? = some d → ch_best fr n jz → post (nI p) S) : wp_M_fitting [nI n] S post := by
  intro V hV
  have hbd : ∀ (i : Nat) (q : Nat × Nat × Nat), P[i]? = some q → q.2.1 ≤ 400 ∧ q.2.2 < 2 ^ 31 := fun i q hq => by
    have hz : q ∈ Z := m5.mem_iff.mp (List.mem_of_getElem? hq)
    have := hfr (q.1, q.2.1) (by rw [← m8]; exact List.mem_map.mpr ⟨q, hz, rfl⟩)
    have := m7 q hz
    exact ⟨by assumption, by omega⟩
  have hfz : ∀ (i : Nat) (d : Nat × Nat), fr[i]? = some d → ∃ q, Z[i]? = some q ∧ q.1 = d.1 ∧ q.2.1 = d.2 ∧ ∃ k : Nat, k < P.length ∧ P[k]? = some q := fun i d hd => by
    rw [← m8, List.getElem?_map] at hd
    cases hq : Z[i]? with
    | none => rw [hq] at hd; cases hd
    | some q =>
      rw [hq] at hd
      cases hd
      obtain ⟨k, hk⟩ := List.mem_iff_getElem?.mp (m5.mem_iff.mpr (List.mem_of_getElem? hq))
      exact ⟨q, rfl, rfl, rfl, k, (List.getElem?_eq_some_iff.mp hk).1, hk⟩
  have loop : ∀ m i bo, i + m = P.length → fi_seen P n i bo → V 4 S [nI n, enc bo, nI i] := by
    intro m
    induction m with
    | zero =>
      intro i bo h hs
      refine hV 4 S _ ⟨fun _ => ?_, fun h2 => absurd (by rw [m3]; exact nI_le (by omega) (by omega)) h2⟩
      have : i = P.length := by omega
      subst this
      cases bo with
      | none =>
        refine h0 (fun i d hd => ?_)
        obtain ⟨q, z1, z2, z3, k, k1, k2⟩ := hfz i d hd
        rw [← z3]
        exact hs k q k1 k2
      | some j =>
        obtain ⟨c', c1, c2, c3, c4⟩ := hs
        obtain ⟨jz, hjz⟩ := List.mem_iff_getElem?.mp (m5.mem_iff.mp (List.mem_of_getElem? c1))
        refine h1 j jz c' c1 hjz ⟨(c'.1, c'.2.1), ?_, c3, fun i d hd hnd => ?_⟩
        · rw [← m8, List.getElem?_map, hjz]; rfl
        · obtain ⟨q, z1, z2, z3, k, k1, k2⟩ := hfz i d hd
          rw [← z3] at hnd ⊢
          have h5 := c4 k q k1 k2 hnd
          show c'.2.1 ≤ q.2.1 ∧ (jz < i → c'.2.1 < q.2.1)
          refine ⟨by omega, fun hji => ?_⟩
          obtain ⟨l1, e1⟩ := List.getElem?_eq_some_iff.mp hjz
          obtain ⟨l2, e2⟩ := List.getElem?_eq_some_iff.mp z1
          have h6 := List.pairwise_iff_getElem.mp m6 jz i l1 l2 hji
          rw [e1, e2] at h6
          omega
    | succ m ih =>
      intro i bo h hs
      obtain ⟨q, hq⟩ := ge_some (l := P) (i := i) (by omega)
      obtain ⟨b1, b2⟩ := hbd i q hq
      obtain ⟨r6, r7, r8⟩ := m4 i q hq
      have small : ∀ (hn2 : ¬ n ≤ q.2.1), fi_seen P n (i + 1) bo := fun hn2 => by
        cases bo with
        | none =>
          intro k d hk hd
          by_cases hki : k = i
          · subst hki; rw [hq] at hd; cases hd; exact hn2
          · exact hs k d (by omega) hd
        | some j =>
          obtain ⟨e, e1, e2, e3, e4⟩ := hs
          refine ⟨e, e1, by omega, e3, fun k d hk hd hnd => ?_⟩
          by_cases hki : k = i
          · subst hki; rw [hq] at hd; cases hd; exact absurd hnd hn2
          · exact e4 k d (by omega) hd hnd
      refine hV 4 S _ ⟨fun h2 => absurd h2 (by rw [m3]; exact nI_ge (by omega) (by omega)), fun _ => ⟨vp_in_nI (by omega) (by decide), ?_⟩⟩
      rw [nI_clamp (by omega), r7, r8]
      refine ⟨fun h2 y1 e1 => ⟨fun _ y2 e2 => ?_, fun h3 => absurd e1 h3⟩, fun h2 y1 e1 => ⟨fun h3 => by rw [e1] at h3; exact one_ne h3, fun _ => ?_⟩⟩
      · rw [nI_1] at e2; subst e2
        have := (nI_ltI (by omega) (by omega)).mp h2
        exact ih (i + 1) bo (by omega) (small (by omega))
      · have hnq := mt (nI_ltI (a := q.2.1) (b := n) (by omega) (by omega)).mpr h2
        have new : ∀ (hh : ∀ (k : Nat) (d : Nat × Nat × Nat), k < i → P[k]? = some d → n ≤ d.2.1 → q.2.1 < d.2.1 ∨ (q.2.1 = d.2.1 ∧ d.2.2 ≤ q.2.2)), fi_seen P n (i + 1) (some i) := fun hh => by
          refine ⟨q, hq, by omega, by omega, fun k d hk hd hnd => ?_⟩
          by_cases hki : k = i
          · subst hki; rw [hq] at hd; cases hd; exact Or.inr ⟨rfl, Nat.le_refl _⟩
          · exact hh k d (by omega) hd hnd
        cases bo with
        | none =>
          refine ⟨fun _ y2 e2 => ?_, fun h3 => absurd (by decide) h3⟩
          rw [nI_1] at e2; subst e2
          exact ih (i + 1) (some i) (by omega) (new (fun k d hk hd hnd => absurd hnd (hs k d hk hd)))
        | some j =>
          obtain ⟨e, e1', e2', e3, e4⟩ := hs
          obtain ⟨f1, f2⟩ := hbd j e e1'
          obtain ⟨t6, t7, t8⟩ := m4 j e e1'
          refine ⟨fun h3 => absurd h3 (nI_pos (by omega)), fun _ => ⟨vp_in_nI (by omega) (by decide), vp_in_nI (by omega) (by decide), ?_⟩⟩
          show (_ < S 7 (nI j).toNatClampNeg → _) ∧ (¬ _ < S 7 (nI j).toNatClampNeg → (_ ∧ (_ ∧ ((¬ _ = S 7 (nI j).toNatClampNeg → _) ∧ (_ = S 7 (nI j).toNatClampNeg → (_ ∧ (_ ∧ ((_ ≤ S 8 (nI j).toNatClampNeg → _) ∧ (¬ _ ≤ S 8 (nI j).toNatClampNeg → _)))))))))
          rw [nI_clamp (by omega), t7, t8]
          have keep : ∀ (hh : e.2.1 < q.2.1 ∨ (e.2.1 = q.2.1 ∧ q.2.2 ≤ e.2.2)), fi_seen P n (i + 1) (some j) := fun hh => by
            refine ⟨e, e1', by omega, e3, fun k d hk hd hnd => ?_⟩
            by_cases hki : k = i
            · subst hki; rw [hq] at hd; cases hd; exact hh
            · exact e4 k d (by omega) hd hnd
          refine ⟨fun h5 y2 e2 => ?_, fun h5 => ⟨vp_in_nI (by omega) (by decide), vp_in_nI (by omega) (by decide), fun h6 y2 e2 => ?_, fun h6 => ⟨vp_in_nI (by omega) (by decide), vp_in_nI (by omega) (by decide), fun h7 y2 e2 => ?_, fun h7 y2 e2 => ?_⟩⟩⟩
          · rw [nI_1] at e2; subst e2
            have := (nI_ltI (by omega) (by omega)).mp h5
            exact ih (i + 1) (some i) (by omega) (new (fun k d hk hd hnd => by have := e4 k d hk hd hnd; omega))
          · rw [nI_1] at e2; subst e2
            have := mt (nI_ltI (a := q.2.1) (b := e.2.1) (by omega) (by omega)).mpr h5
            have := mt (nI_eq (a := q.2.1) (b := e.2.1) (by omega) (by omega)).mpr h6
            exact ih (i + 1) (some j) (by omega) (keep (by omega))
          · rw [nI_1] at e2; subst e2
            have h8 := (nI_eq (a := q.2.1) (b := e.2.1) (by omega) (by omega)).mp h6
            have := (nI_leI (a := q.2.2) (b := e.2.2) (by omega) (by omega)).mp h7
            exact ih (i + 1) (some j) (by omega) (keep (by omega))
          · rw [nI_1] at e2; subst e2
            have h8 := (nI_eq (a := q.2.1) (b := e.2.1) (by omega) (by omega)).mp h6
            have := mt (nI_leI (a := q.2.2) (b := e.2.2) (by omega) (by omega)).mpr h7
            exact ih (i + 1) (some i) (by omega) (new (fun k d hk hd hnd => by have := e4 k d hk hd hnd; omega))
  refine hV 0 S _ (fun y1 e1 y2 e2 => ?_)
  subst e1; subst e2
  exact loop _ 0 none (Nat.zero_add _) (fun k d hk => absurd hk (Nat.not_lt_zero k))
theorem sw_perm {α : Type} : ∀ (R : List α) (p : Nat) (d l : α), (R ++ [l])[p]? = some d → (d :: R.set p l).Perm (R ++ [l]) := by
  intro R
  induction R with
  | nil =>
    intro p d l h
    cases p with
    | zero => cases h; exact List.Perm.refl _
    | succ p => cases h
  | cons r R ih =>
    intro p d l h
    cases p with
    | zero =>
      cases h
      exact (List.perm_append_singleton l R).symm.cons r
    | succ p => exact (List.Perm.swap r d _).trans ((ih p d l h).cons r)
theorem er_perm {α : Type} : ∀ (R : List α) (p : Nat) (d : α), R[p]? = some d → (d :: R.eraseIdx p).Perm R := by
  intro R
  induction R with
  | nil => intro p d h; cases h
  | cons r R ih =>
    intro p d h
    cases p with
    | zero => cases h; exact List.Perm.refl _
    | succ p => exact (List.Perm.swap r d _).trans ((ih p d h).cons r)
theorem er_map {α β : Type} (f : α → β) : ∀ (l : List α) (i : Nat), (l.eraseIdx i).map f = (l.map f).eraseIdx i := by
  intro l
  induction l with
  | nil => intro i; rfl
  | cons a l ih =>
    intro i
    cases i with
    | zero => rfl
    | succ i =>
      show f a :: (l.eraseIdx i).map f = f a :: (l.map f).eraseIdx i
      rw [ih]
/-- what the reference does with the chunk that it found -/
def cutM (post : Int32 → GS → Prop) (v1 r2 : Int32) (S1 : GS) : Prop := (vp_in r2 400 ∧ ∀ y3 : Int32, y3 = S1 6 (r2).toNatClampNeg → (vp_in r2 400 ∧ ∀ y4 : Int32, y4 = (S1 7 (r2).toNatClampNeg) - v1 → (∀ S5 : GS, S5 = gx_set 100 3 ((S1 100 3) - 1) S1 → (vp_in (S5 100 3) 400 ∧ (vp_in r2 400 ∧ ∀ S6 : GS, S6 = gx_set 6 (r2).toNatClampNeg (S5 6 (S5 100 3).toNatClampNeg) S5 → (vp_in (S6 100 3) 400 ∧ (vp_in r2 400 ∧ ∀ S7 : GS, S7 = gx_set 7 (r2).toNatClampNeg (S6 7 (S6 100 3).toNatClampNeg) S6 → (vp_in (S7 100 3) 400 ∧ (vp_in r2 400 ∧ ∀ S8 : GS, S8 = gx_set 8 (r2).toNatClampNeg (S7 8 (S7 100 3).toNatClampNeg) S7 → ((y4 ≤ 0 → post y3 S8) ∧ (¬ y4 ≤ 0 → wp_M_give  [y3 + v1, y4] S8 (fun S9 => post y3 S9))))))))))))
theorem sm_cut {z c n p jz : Nat} {t : Int32} {P Z : List (Nat × Nat × Nat)} {d : Nat × Nat × Nat} {post : Int32 → GS → Prop} (hi : pg W E D) (hm : mk W E z t rg D S) (m1 : c ≤ z + D.2.2.length) (m2 : S 100 4 = nI c) (m3 : S 100 3 = nI P.length) (m4 : ∀ (i : Nat) (q : Nat × Nat × Nat), P[i]? = some q → S 6 i = nI q.1 ∧ S 7 i = nI q.2.1 ∧ S 8 i = nI q.2.2) (m5 : P.Perm Z) (m6 : Z.Pairwise (fun a b => a.2.2 < b.2.2)) (m7 : ∀ q ∈ Z, q.2.2 < c) (m8 : Z.map (fun q => (q.1, q.2.1)) = D.2.2) (hn : n ≤ d.2.1) (hp : P[p]? = some d) (hz : Z[jz]? = some d) (h : ∀ S' : GS, mk W E (z + 1) t rg (D.1, D.2.1, ch_cut D.2.2 jz (d.1, d.2.1) n) S' → post (nI d.1) S') : cutM post (nI n) (nI p) S := by
  have hb := hi.1
  have hl := hi.2.len
  have hPl : P.length = D.2.2.length := by rw [m5.length_eq, ← m8, List.length_map]
  have hpl := (List.getElem?_eq_some_iff.mp hp).1
  have hzl := (List.getElem?_eq_some_iff.mp hz).1
  have hZl : Z.length = D.2.2.length := by rw [← m8, List.length_map]
  have hdg : d.2.1 ≤ 400 := by
    have := hi.2.2.2.1 (d.1, d.2.1) (by rw [← m8]; exact List.mem_map.mpr ⟨d, List.mem_of_getElem? hz, rfl⟩)
    have h2 : d.1 + d.2.1 ≤ W := this.2
    omega
  obtain ⟨R, l, rfl⟩ : ∃ R l, P = R ++ [l] := by
    rcases List.eq_nil_or_concat P with h | ⟨R, l, h⟩
    · rw [h] at hp; cases hp
    · exact ⟨R, l, by rw [h, List.concat_eq_append]⟩
  have hRl : (R ++ [l]).length = R.length + 1 := by rw [List.length_append]; rfl
  rw [hRl] at hPl hpl m3
  have hlast : (R ++ [l])[R.length]? = some l := by rw [List.getElem?_append_right (Nat.le_refl _), Nat.sub_self]; rfl
  obtain ⟨l6, l7, l8⟩ := m4 R.length l hlast
  obtain ⟨d6, d7, d8⟩ := m4 p d hp
  refine ⟨vp_in_nI (by omega) (by decide), fun y3 e3 => ⟨vp_in_nI (by omega) (by decide), fun y4 e4 S5 e5 => ?_⟩⟩
  rw [nI_clamp (by omega)] at e3 e4 ⊢
  rw [d6] at e3
  rw [d7, pk_sub hn] at e4
  subst e3; subst e4
  have g5 : S5 100 3 = nI R.length := by rw [e5, m3]; exact nI_pred _
  rw [g5, nI_clamp (by omega)]
  refine ⟨vp_in_nI (by omega) (by decide), vp_in_nI (by omega) (by decide), fun S6 e6 => ?_⟩
  have g6 : S6 100 3 = nI R.length := by rw [e6]; exact g5
  rw [g6, nI_clamp (by omega)]
  refine ⟨vp_in_nI (by omega) (by decide), vp_in_nI (by omega) (by decide), fun S7 e7 => ?_⟩
  have g7 : S7 100 3 = nI R.length := by rw [e7]; exact g6
  rw [g7, nI_clamp (by omega)]
  refine ⟨vp_in_nI (by omega) (by decide), vp_in_nI (by omega) (by decide), fun S8 e8 => ?_⟩
  have g8 : S8 100 3 = nI R.length := by rw [e8]; exact g7
  have hm8 : mk W E (z + 1) t rg (D.1, D.2.1, D.2.2.eraseIdx jz) S8 := by
    have r6 : S8 6 = upd (S 6) p (nI l.1) := by rw [e8, e7, e6, e5]; show upd (S 6) p (S 6 R.length) = _; rw [l6]
    have r7 : S8 7 = upd (S 7) p (nI l.2.1) := by rw [e8, e7, e6, e5]; show upd (S 7) p (S 7 R.length) = _; rw [l7]
    have r8 : S8 8 = upd (S 8) p (nI l.2.2) := by rw [e8, e7, e6, e5]; show upd (S 8) p (S 8 R.length) = _; rw [l8]
    have ro : S8 0 = S 0 ∧ S8 1 = S 1 ∧ S8 2 = S 2 ∧ S8 3 = S 3 ∧ S8 4 = S 4 ∧ S8 5 = S 5 ∧ S8 100 0 = S 100 0 ∧ S8 100 1 = S 100 1 ∧ S8 100 2 = S 100 2 ∧ S8 100 4 = S 100 4 := by
      rw [e8, e7, e6, e5]; exact ⟨rfl, rfl, rfl, rfl, rfl, rfl, rfl, rfl, rfl, rfl⟩
    clear e5 e6 e7 e8
    obtain ⟨o0, o1, o2, o3, o4, o5, o6, o7, o8, o9⟩ := ro
    obtain ⟨⟨a0, a1, a2, a3, -⟩, ht⟩ := hm
    refine ⟨⟨?_, ?_, ?_, ?_, c, R.set p l, Z.eraseIdx jz, ?_, ?_, ?_, fun i q hq => ?_, ?_, ?_, fun q hq => ?_, ?_⟩, ?_⟩
    · rw [o7, o8]; exact a0
    · rw [o0]; exact a1
    · rw [o1]; exact a2
    · rw [o1, o2, o3, o4, o5]; exact a3
    · show c ≤ z + 1 + (D.2.2.eraseIdx jz).length
      rw [List.length_eraseIdx_of_lt (by omega)]
      omega
    · rw [o9]; exact m2
    · rw [List.length_set]; exact g8
    · rw [r6, r7, r8]
      by_cases hip : i = p
      · subst hip
        rw [pk_us, pk_us, pk_us]
        have hil : i < (R.set i l).length := (List.getElem?_eq_some_iff.mp hq).1
        rw [List.length_set] at hil
        rw [List.getElem?_set_self hil] at hq
        cases hq
        exact ⟨rfl, rfl, rfl⟩
      · rw [pk_un hip, pk_un hip, pk_un hip]
        rw [List.getElem?_set_ne (fun z => hip z.symm)] at hq
        refine m4 i q ?_
        rw [List.getElem?_append_left (List.getElem?_eq_some_iff.mp hq).1]
        exact hq
    · exact List.Perm.cons_inv (((sw_perm R p d l hp).trans m5).trans (er_perm Z jz d hz).symm)
    · exact m6.sublist (List.eraseIdx_sublist _ _)
    · exact m7 q ((List.eraseIdx_sublist _ _).subset hq)
    · show (Z.eraseIdx jz).map (fun q => (q.1, q.2.1)) = D.2.2.eraseIdx jz
      rw [er_map, m8]
    · rw [o6]; exact ht
  clear e5 e6 e7 e8
  unfold ch_cut at h
  refine ⟨fun h2 => h S8 ?_, fun h2 => ?_⟩
  · have := (nI_leI (a := d.2.1 - n) (b := 0) (by omega) (by decide)).mp h2
    rw [if_neg (by show ¬ n < d.2.1; omega), List.append_nil]; exact hm8
  · have := mt (nI_leI (a := d.2.1 - n) (b := 0) (by omega) (by decide)).mpr h2
    rw [if_pos (by show n < d.2.1; omega)] at h
    rw [nI_add]
    refine sm_give hm8 ?_ (fun S9 h9 _ _ => h S9 h9)
    show (D.2.2.eraseIdx jz).length < 400
    rw [List.length_eraseIdx_of_lt (by omega)]
    omega
end CH3
