/-! What the small methods answer, on both sides. -/
/-- bounds and where things lie -/
def pg (W E : Nat) (D : PD) : Prop := (16 ≤ W ∧ W ≤ 400 ∧ 2 ≤ E ∧ E ≤ 40) ∧ pu_geo W E D.1 D.2.2
theorem pinv.pg {W E : Nat} {rg : Nat → Int32} {D : PD} (h : pinv W E rg D) : pg W E D := ⟨h.1, h.2.1⟩
section SPX
variable {W E : Nat} {rg : Nat → Int32} {D : PD} {S : GS}
theorem sx_isRegister {r : Int32} {post : Int32 → GS → Prop} (h0 : (r < 0 ∨ 8 ≤ r) → post 0 S) (h1 : ∀ j : Nat, j < 8 → r = nI j → post 1 S) : wp_X_isRegister W E [r] S post := by
  intro V hV
  refine hV 0 S [r] ⟨fun h => h0 (Or.inl h), fun h => ⟨fun h2 => h0 (Or.inr h2), fun h2 => ?_⟩⟩
  rcases pk_ix r (n := 8) (by decide) with h3 | h3 | ⟨j, hj, h3⟩
  · exact absurd h3 h
  · exact absurd h3 h2
  · exact h1 j hj h3
theorem sm_isRegister' {S : GS} {r : Int32} {post : Int32 → GS → Prop} (h0 : (r < 0 ∨ 8 ≤ r) → post 0 S) (h1 : ∀ j : Nat, j < 8 → r = nI j → post 1 S) : wp_M_isRegister [r] S post := by
  intro V hV
  refine hV 0 S [r] ⟨fun h => h0 (Or.inl h), fun h => ⟨fun h2 => h0 (Or.inr h2), fun h2 => ?_⟩⟩
  rcases pk_ix r (n := 8) (by decide) with h3 | h3 | ⟨j, hj, h3⟩
  · exact absurd h3 h
  · exact absurd h3 h2
  · exact h1 j hj h3
theorem sx_isUsed {e : Nat} (he : e ≤ E) (hE : E ≤ 40) {post : Int32 → GS → Prop} (h0 : S 1 e = -1 → post 0 S) (h1 : ¬ S 1 e = -1 → post 1 S) : wp_X_isUsed W E [nI e] S post := by
  intro V hV
  refine hV 0 S _ ⟨vp_in_nI (by omega) (by omega), fun h => h0 ?_, fun h => h1 ?_⟩
  · rw [nI_clamp (by omega)] at h; exact h
  · rw [nI_clamp (by omega)] at h; exact h
/-- an even number above 0 is twice another -/
theorem nu_two {v : Int32} (h : ¬ v ≤ 0) (h2 : v - v / 2 * 2 = 0) : ∃ e : Nat, 1 ≤ e ∧ 2 * e < 2 ^ 31 ∧ v = nI (2 * e) := by
  obtain ⟨j, h3, h4, rfl⟩ := nu_pos h
  have h5 := pk_rem (a := j) (d := 2) h4 (by decide) (by decide)
  rw [show (nI 2 : Int32) = 2 from rfl, h2, show (0 : Int32) = nI 0 from rfl] at h5
  have h6 := (nI_eq (by omega) (by omega)).mp h5
  exact ⟨j / 2, by omega, by omega, by congr 1; omega⟩
theorem nu_lt0 {e : Nat} (h1 : 1 ≤ e) (h2 : 2 * e < 2 ^ 31) : ¬ nI (2 * e) ≤ 0 := nI_nle (by omega) h2
theorem sx_isObject' (hi : pg W E D) (hx : xr E rg D S) {v : Int32} {post : Int32 → GS → Prop} (h0 : pu_ent E D.1 v = none → post 0 S) (h1 : ∀ (e : Nat) (q : PO), 1 ≤ e → e ≤ E → v = nI (2 * e) → D.1 e = some q → post 1 S) : wp_X_isObject W E [v] S post := by
  obtain ⟨⟨hW1, hW2, hE1, hE2⟩, hg⟩ := hi
  have hE : E < 2 ^ 29 := by omega
  intro V hV
  refine hV 0 S [v] ⟨fun h => h0 ?_, fun h => ⟨fun h2 => h0 ?_, fun h2 => ?_⟩⟩
  · refine (pu_ent_none hE).mpr (fun e a b c => ?_)
    subst c
    exact absurd h (nu_lt0 a (by omega))
  · refine (pu_ent_none hE).mpr (fun e a b c => ?_)
    subst c
    exact absurd ((nu_par _).mpr (nu_even (by omega))) h2
  · obtain ⟨e, a, b, rfl⟩ := nu_two h h2
    rw [nu_half b]
    refine ⟨fun h3 => h0 ?_, fun h3 => ?_⟩
    · have h4 := (nI_leI (by omega) (by omega)).mp h3
      refine (pu_ent_none hE).mpr (fun k c1 c2 c3 => ?_)
      have := (nI_eq (by omega) (by omega)).mp c3
      omega
    · have h4 : e ≤ E := by
        rcases Nat.lt_or_ge E e with h | h
        · exact absurd (nI_le h (by omega)) h3
        · exact h
      refine sx_isUsed h4 hE2 (fun h5 => ⟨fun _ => h0 ?_, fun h6 => absurd rfl h6⟩) (fun h5 => ⟨fun h6 => absurd h6 (by decide), fun _ => ?_⟩)
      · have h6 := (hx.used hg hW2 a h4).mp h5
        refine (pu_ent_none hE).mpr (fun k c1 c2 c3 => ?_)
        have : e = k := by have := (nI_eq (by omega) (by omega)).mp c3; omega
        subst this
        rw [h6]; rfl
      · cases hd : D.1 e with
        | none => exact absurd ((hx.used hg hW2 a h4).mpr hd) h5
        | some q => exact h1 e q a h4 rfl hd
theorem sx_isObject (hi : pinv W E rg D) (hx : xr E rg D S) {v : Int32} {post : Int32 → GS → Prop} (h0 : pu_ent E D.1 v = none → post 0 S) (h1 : ∀ (e : Nat) (q : PO), 1 ≤ e → e ≤ E → v = nI (2 * e) → D.1 e = some q → post 1 S) : wp_X_isObject W E [v] S post := sx_isObject' hi.pg hx h0 h1
theorem sm_leads {v : Int32} {post : Int32 → GS → Prop} (h0 : (v = 0 ∨ ¬ v &&& 1 = 0) → post 0 S) (h1 : ¬ v = 0 → v &&& 1 = 0 → post 1 S) : wp_M_leads [v] S post := by
  intro V hV
  exact hV 0 S [v] ⟨fun h => h0 (Or.inl h), fun h => ⟨fun h2 => h0 (Or.inr h2), fun h2 => h1 h h2⟩⟩
theorem sm_isObject' {k : Nat} (hi : pg W E D) (hm : mr W E k rg D S) {v : Int32} {post : Int32 → GS → Prop} (h0 : pu_ent E D.1 v = none → post 0 S) (h1 : ∀ (e : Nat) (q : PO), 1 ≤ e → e ≤ E → v = nI (2 * e) → D.1 e = some q → post 1 S) : wp_M_isObject [v] S post := by
  obtain ⟨⟨hW1, hW2, hE1, hE2⟩, hg⟩ := hi
  have hE : E < 2 ^ 29 := by omega
  intro V hV
  refine hV 0 S [v] ⟨fun h => h0 ?_, fun h => ⟨fun h2 => h0 ?_, fun h2 => ?_⟩⟩
  · refine (pu_ent_none hE).mpr (fun e a b c => ?_)
    subst c
    exact absurd h (nu_lt0 a (by omega))
  · refine (pu_ent_none hE).mpr (fun e a b c => ?_)
    subst c
    rw [hm.1.2, show (2 : Int32) = nI 2 from rfl, pk_mul] at h2
    have := (nI_ltI (by omega) (by omega)).mp h2
    omega
  · refine sm_leads (fun h3 => ⟨fun _ => h0 ?_, fun h4 => absurd rfl h4⟩) (fun h3 h4 => ⟨fun h5 => absurd h5 (by decide), fun _ => ?_⟩)
    · refine (pu_ent_none hE).mpr (fun e a b c => ?_)
      subst c
      rcases h3 with h3 | h3
      · exact absurd h3 (nI_ne0 (by omega) (by omega))
      · exact absurd (nu_even (by omega)) h3
    · obtain ⟨e, a, b, rfl⟩ := nu_two h ((nu_par v).mpr h4)
      have h6 : e ≤ E := by
        rw [hm.1.2, show (2 : Int32) = nI 2 from rfl, pk_mul] at h2
        have := mt (nI_ltI (a := 2 * E) (b := 2 * e) (by omega) (by omega)).mpr h2
        omega
      rw [nu_half b, nI_clamp (by omega)]
      refine ⟨vp_in_nI (by omega) (by decide), fun h5 => h0 ?_, fun h5 => ?_⟩
      · cases hd : D.1 e with
        | none =>
          refine (pu_ent_none hE).mpr (fun k c1 c2 c3 => ?_)
          have : e = k := by have := (nI_eq (by omega) (by omega)).mp c3; omega
          subst this
          rw [hd]; rfl
        | some q =>
          have := (hm.2.2.2.1 e q hd).1
          rw [this] at h5
          exact absurd h5 (by decide)
      · cases hd : D.1 e with
        | none => exact absurd (hm.2.2.1 e a h6 hd) h5
        | some q => exact h1 e q a h6 rfl hd
theorem sm_isObject {k : Nat} (hi : pinv W E rg D) (hm : mr W E k rg D S) {v : Int32} {post : Int32 → GS → Prop} (h0 : pu_ent E D.1 v = none → post 0 S) (h1 : ∀ (e : Nat) (q : PO), 1 ≤ e → e ≤ E → v = nI (2 * e) → D.1 e = some q → post 1 S) : wp_M_isObject [v] S post := sm_isObject' hi.pg hm h0 h1
/-- an answer to 'isObject' tells which -/
theorem ent_of {e : Nat} {q : PO} (hE : E ≤ 40) (h1 : 1 ≤ e) (h2 : e ≤ E) (hd : D.1 e = some q) : pu_ent E D.1 (nI (2 * e)) = some e := (pu_ent_some (by omega)).mpr ⟨h1, h2, rfl, by rw [hd]; rfl⟩
end SPX
section SIM1
variable {W E : Nat}
theorem JJ.next {n : Nat} {X M : GS} (h : JJ W E n X M) : JJ W E (n + 1) X M := by
  obtain ⟨rg, D, h1, h2, h3⟩ := h
  exact ⟨rg, D, h1, h2, h3.mono (by omega)⟩
theorem JJ.rows {n : Nat} {X X' M : GS} (h : ∀ k, k < 150 → X k = X' k) (hj : JJ W E n X M) : JJ W E n X' M := by
  obtain ⟨rg, D, h1, h2, h3⟩ := hj
  exact ⟨rg, D, h1, h2.of_rows h, h3⟩
theorem nb_0 : narrow .boolean (.int 0) = .int 0 := rfl
theorem nb_1 : narrow .boolean (.int 1) = .int 1 := rfl
theorem si_exists : sm_exists W E (JJ W E) := by
  intro n X M a _ hj PX hP
  obtain ⟨rg, D, hi, hx, hm⟩ := hj
  intro V hV
  refine hV 0 X [a] (sx_isObject hi hx (fun h => ⟨nb_0, hP 0 X (fun PM hM => ?_)⟩) (fun e q a1 a2 a3 a4 => ⟨nb_1, hP 1 X (fun PM hM => ?_)⟩))
  · intro V2 hV2
    refine hV2 0 M [a] (fun S1 e1 => ?_)
    subst e1
    refine sm_isObject hi (hm.thrown 0) (fun _ => ⟨nb_0, hM _ ⟨rg, D, hi, hx, (hm.thrown 0).mono (by omega)⟩⟩) (fun e q a1 a2 a3 a4 => ?_)
    subst a3
    rw [ent_of hi.1.2.2.2 a1 a2 a4] at h
    cases h
  · intro V2 hV2
    refine hV2 0 M [a] (fun S1 e1 => ?_)
    subst e1
    refine sm_isObject hi (hm.thrown 0) (fun h => ?_) (fun _ _ _ _ _ _ => ⟨nb_1, hM _ ⟨rg, D, hi, hx, (hm.thrown 0).mono (by omega)⟩⟩)
    subst a3
    rw [ent_of hi.1.2.2.2 a1 a2 a4] at h
    cases h
end SIM1
