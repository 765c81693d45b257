/-! Moving together: the objects in the order in which they lie. -/
section PK
variable {W E : Nat} {rg : Nat → Int32}
/-- the object that lies lowest from place p on -/
def pk_low (ob : PB) (p e : Nat) (q : PO) : Prop := ob e = some q ∧ p ≤ q.1 ∧ ∀ (e' : Nat) (q' : PO), ob e' = some q' → p ≤ q'.1 → q.1 ≤ q'.1
def pk_run : Nat → Nat → Nat → PB → PB → Nat → Nat → Prop
  | 0, p, mv, ob, ob', p', mv' => (∀ (e : Nat) (q : PO), ob e = some q → q.1 < p) ∧ ob' = ob ∧ p' = p ∧ mv' = mv
  | m + 1, p, mv, ob, ob', p', mv' => ∃ (e : Nat) (q : PO), pk_low ob p e q ∧ pk_run m (p + (q.2.length + 1)) (if q.1 = p then mv else mv + 1) (va_up ob e (some (p, q.2))) ob' p' mv'
/-- what holds while they are moved: those below p lie as they will -/
def pk_inv (W E p : Nat) (ob : PB) : Prop := pu_geo W E ob [] ∧ p ≤ W ∧ ∀ (e : Nat) (q : PO), ob e = some q → q.1 + (q.2.length + 1) ≤ p ∨ p ≤ q.1
theorem pk_low.uniq {p e e' : Nat} {q q' : PO} {ob : PB} (hi : pk_inv W E p ob) (h : pk_low ob p e q) (h' : pk_low ob p e' q') : e = e' ∧ q = q' := by
  have h1 := h.2.2 e' q' h'.1 h'.2.1
  have h2 := h'.2.2 e q h.1 h.2.1
  by_cases hee : e = e'
  · subst hee
    have := h.1.symm.trans h'.1
    cases this
    exact ⟨rfl, rfl⟩
  · have := hi.1.2.1 e e' q q' h.1 h'.1 hee
    omega
/-- the others lie apart from where it comes to lie -/
theorem pk_low.apart {p e : Nat} {q : PO} {ob : PB} (hi : pk_inv W E p ob) (h : pk_low ob p e q) : ∀ (k : Nat) (o : PO), k ≠ e → ob k = some o → o.1 + (o.2.length + 1) ≤ p ∨ (p ≤ o.1 ∧ q.1 + (q.2.length + 1) ≤ o.1) := fun k o hk ho => by
  rcases hi.2.2 k o ho with h1 | h1
  · exact Or.inl h1
  · have h2 := h.2.2 k o ho h1
    have h3 := hi.1.2.1 k e o q ho h.1 hk
    right
    omega
theorem pk_inv.step {p e : Nat} {q : PO} {ob : PB} (hi : pk_inv W E p ob) (h : pk_low ob p e q) : pk_inv W E (p + (q.2.length + 1)) (va_up ob e (some (p, q.2))) := by
  have hap := h.apart hi
  have hg := hi.1.1 e q h.1
  have hpq := h.2.1
  have key : ∀ (k : Nat) (o : PO), va_up ob e (some (p, q.2)) k = some o → (k = e ∧ o = (p, q.2)) ∨ (k ≠ e ∧ ob k = some o) := fun k o hk => by
    by_cases hke : k = e
    · subst hke; rw [va_up_self] at hk; cases hk; exact Or.inl ⟨rfl, rfl⟩
    · rw [va_up_ne _ _ hke] at hk; exact Or.inr ⟨hke, hk⟩
  refine ⟨⟨fun k o hk => ?_, fun k k' o o' hk hk' hne => ?_, fun c hc => (by cases hc), List.Pairwise.nil, fun k o c _ hc => by cases hc⟩, by omega, fun k o hk => ?_⟩
  · rcases key k o hk with ⟨rfl, rfl⟩ | ⟨h1, h2⟩
    · exact ⟨hg.1, hg.2.1, hg.2.2.1, hg.2.2.2.1, by show p + (q.2.length + 1) ≤ W; omega⟩
    · exact hi.1.1 k o h2
  · rcases key k o hk with ⟨rfl, rfl⟩ | ⟨h1, h2⟩
    · rcases key k' o' hk' with ⟨rfl, rfl⟩ | ⟨h1', h2'⟩
      · exact absurd rfl hne
      · have := hap k' o' h1' h2'
        show p + (q.2.length + 1) ≤ o'.1 ∨ o'.1 + (o'.2.length + 1) ≤ p
        omega
    · rcases key k' o' hk' with ⟨rfl, rfl⟩ | ⟨h1', h2'⟩
      · have := hap k o h1 h2
        show o.1 + (o.2.length + 1) ≤ p ∨ p + (q.2.length + 1) ≤ o.1
        omega
      · exact hi.1.2.1 k k' o o' h2 h2' hne
  · rcases key k o hk with ⟨rfl, rfl⟩ | ⟨h1, h2⟩
    · exact Or.inl (Nat.le_refl _)
    · have := hap k o h1 h2
      omega
def pk_num (E p : Nat) (ob : PB) : Nat := pu_sum (fun i => if p ≤ ((ob i).getD (0, [])).1 ∧ (ob i).isSome = true then 1 else 0) E
theorem pk_num_step {p e : Nat} {q : PO} {ob : PB} (hi : pk_inv W E p ob) (hlow : pk_low ob p e q) : pk_num E (p + (q.2.length + 1)) (va_up ob e (some (p, q.2))) + 1 = pk_num E p ob := by
  have he := hlow.1
  have hpq := hlow.2.1
  have hg := hi.1.1 e q he
  have := pu_sum_up (f := fun i => if p + (q.2.length + 1) ≤ ((va_up ob e (some (p, q.2)) i).getD (0, [])).1 ∧ (va_up ob e (some (p, q.2)) i).isSome = true then 1 else 0) (g := fun i => if p ≤ ((ob i).getD (0, [])).1 ∧ (ob i).isSome = true then 1 else 0) hg.1 hg.2.1 (fun i _ _ hie => by
    rw [va_up_ne _ _ hie]
    cases ho : ob i with
    | none => rw [if_neg (fun h => by cases h.2), if_neg (fun h => by cases h.2)]
    | some o =>
      have h1 := hlow.apart hi i o hie ho
      show (if p + (q.2.length + 1) ≤ o.1 ∧ _ then 1 else 0) = (if p ≤ o.1 ∧ _ then 1 else 0)
      rcases h1 with h1 | h1
      · rw [if_neg (fun h => by omega), if_neg (fun h => by omega)]
      · rw [if_pos ⟨by omega, rfl⟩, if_pos ⟨h1.1, rfl⟩])
  rw [va_up_self, he] at this
  rw [if_pos (show p ≤ ((some q : Option PO).getD (0, [])).1 ∧ (some q).isSome = true from ⟨hpq, rfl⟩), if_neg (show ¬ (p + (q.2.length + 1) ≤ ((some (p, q.2) : Option PO).getD (0, [])).1 ∧ _) from fun h => by have h2 : p + (q.2.length + 1) ≤ p := h.1; omega)] at this
  unfold pk_num
  omega
theorem pk_num_zero {p : Nat} {ob : PB} (h : ∀ (e : Nat) (q : PO), ob e = some q → q.1 < p) : pk_num E p ob = 0 := by
  have : pk_num E p ob = pu_sum (fun _ => 0) E := pu_sum_eq (fun i _ _ => by
    refine if_neg (fun hc => ?_)
    obtain ⟨q, hq⟩ := Option.isSome_iff_exists.mp hc.2
    rw [hq] at hc
    have h1 : p ≤ q.1 := hc.1
    have := h i q hq
    omega)
  rw [this, pu_sum_const, Nat.zero_mul]
theorem pk_run.ex : ∀ (m p mv : Nat) (ob : PB), pk_inv W E p ob → pk_num E p ob = m → ∃ (ob' : PB) (p' mv' : Nat), pk_run m p mv ob ob' p' mv' := by
  intro m
  induction m with
  | zero =>
    intro p mv ob hi hm
    refine ⟨ob, p, mv, fun e q he => ?_, rfl, rfl, rfl⟩
    have hg := hi.1.1 e q he
    have h0 := pu_sum_zero hm e hg.1 hg.2.1
    rw [he] at h0
    rcases Nat.lt_or_ge q.1 p with h | h
    · exact h
    · rw [if_pos ⟨h, rfl⟩] at h0; cases h0
  | succ m ih =>
    intro p mv ob hi hm
    have hex : ∃ a, ∃ (e : Nat) (q : PO), ob e = some q ∧ p ≤ q.1 ∧ q.1 = a := by
      refine Classical.byContradiction (fun hno => ?_)
      have : pk_num E p ob = pu_sum (fun _ => 0) E := pu_sum_eq (fun i _ _ => by
        refine if_neg (fun hc => ?_)
        obtain ⟨q, hq⟩ := Option.isSome_iff_exists.mp hc.2
        rw [hq] at hc
        exact hno ⟨q.1, i, q, hq, hc.1, rfl⟩)
      rw [pu_sum_const] at this
      omega
    obtain ⟨a, ⟨e, q, he, hpq, hqa⟩, hleast⟩ := pk_least _ hex
    have hlow : pk_low ob p e q := ⟨he, hpq, fun e' q' he' hp' => by
      rcases Nat.lt_or_ge q'.1 q.1 with h | h
      · exact absurd ⟨e', q', he', hp', rfl⟩ (hleast q'.1 (by omega))
      · exact h⟩
    have hn := pk_num_step hi hlow
    obtain ⟨ob', p', mv', hr⟩ := ih (p + (q.2.length + 1)) (if q.1 = p then mv else mv + 1) (va_up ob e (some (p, q.2))) (hi.step hlow) (by omega)
    exact ⟨ob', p', mv', e, q, hlow, hr⟩
theorem pk_run.end {ob' : PB} {p' mv' : Nat} : ∀ (m p mv : Nat) (ob : PB), pk_inv W E p ob → pk_run m p mv ob ob' p' mv' → pk_inv W E p' ob' ∧ (∀ (e : Nat) (q : PO), ob' e = some q → q.1 < p') ∧ (∀ i, (ob' i).map (fun q => q.2) = (ob i).map (fun q => q.2)) := by
  intro m
  induction m with
  | zero =>
    intro p mv ob hi h
    obtain ⟨h1, h2, h3, -⟩ := h
    subst h2; subst h3
    exact ⟨hi, h1, fun _ => rfl⟩
  | succ m ih =>
    intro p mv ob hi h
    obtain ⟨e, q, hl, hr⟩ := h
    obtain ⟨a, b, c⟩ := ih _ _ _ (hi.step hl) hr
    refine ⟨a, b, fun i => (c i).trans ?_⟩
    by_cases hie : i = e
    · subst hie; rw [va_up_self, hl.1]; rfl
    · rw [va_up_ne _ _ hie]
def pk_fin (W p : Nat) : List (Nat × Nat) := if p < W then [(p, W - p)] else []
/-- all of it: the state after, and how many were moved -/
def pk_to (W : Nat) (D D' : PD) (mv : Nat) : Prop := ∃ (m p' : Nat) (ob' : PB), pk_run m 0 0 D.1 ob' p' mv ∧ D' = (ob', D.2.1, pk_fin W p')
theorem pk_inv.start {D : PD} (hi : pu_geo W E D.1 D.2.2) : pk_inv W E 0 D.1 := by
  obtain ⟨h1, h2, -⟩ := hi
  exact ⟨⟨h1, h2, fun c hc => (by cases hc), List.Pairwise.nil, fun _ _ c _ hc => by cases hc⟩, Nat.zero_le _, fun _ _ _ => Or.inr (Nat.zero_le _)⟩
theorem pk_to.ex {D : PD} (hi : pu_geo W E D.1 D.2.2) : ∃ (D' : PD) (mv : Nat), pk_to W D D' mv := by
  obtain ⟨ob', p', mv', h⟩ := pk_run.ex (pk_num E 0 D.1) 0 0 D.1 (pk_inv.start hi) rfl
  exact ⟨_, mv', _, p', ob', h, rfl⟩
theorem pk_to.inv {D D' : PD} {mv : Nat} (hi : pinv W E rg D) (h : pk_to W D D' mv) : pinv W E rg D' := by
  obtain ⟨m, p', ob', hr, rfl⟩ := h
  obtain ⟨⟨g, gp, g3⟩, g2, hws⟩ := hr.end (W := W) (E := E) m 0 0 D.1 (pk_inv.start hi.2.1)
  have hsome : ∀ i, (ob' i).isSome = (D.1 i).isSome := fun i => by
    have := hws i
    cases h1 : ob' i with
    | none => cases h2 : D.1 i with
      | none => rfl
      | some o => rw [h1, h2] at this; cases this
    | some q => cases h2 : D.1 i with
      | none => rw [h1, h2] at this; cases this
      | some o => rfl
  have hw : ∀ i, pu_ws ob' i = pu_ws D.1 i := fun i => by
    have := hws i
    unfold pu_ws
    cases h1 : ob' i with
    | none => cases h2 : D.1 i with
      | none => rfl
      | some o => rw [h1, h2] at this; cases this
    | some q => cases h2 : D.1 i with
      | none => rw [h1, h2] at this; cases this
      | some o =>
        rw [h1, h2] at this
        exact Option.some.inj this
  have hrefs : ∀ k, pu_refs E rg ob' (fun _ => false) k = pu_refs E rg D.1 (fun _ => false) k := fun k => by
    unfold pu_refs
    congr 1
    exact pu_sum_eq (fun i _ _ => by rw [hw])
  have hend : ∀ (e : Nat) (q : PO), ob' e = some q → q.1 + (q.2.length + 1) ≤ p' := fun e q he => by
    have := g3 e q he
    have := g2 e q he
    omega
  refine ⟨hi.1, ⟨g.1, g.2.1, fun c hc => ?_, ?_, fun e q c he hc => ?_⟩, hi.2.2.1, ⟨fun k c1 c2 c3 => ?_, fun k c1 c2 c3 => ?_, fun i hi2 => by cases hi2⟩, hi.2.2.2.2.1, fun e q he w hw2 => ?_⟩
  · have hc' : c ∈ pk_fin W p' := hc
    unfold pk_fin at hc'
    split at hc'
    · rw [List.mem_singleton.mp hc']
      exact ⟨by show 1 ≤ W - p'; omega, by show p' + (W - p') ≤ W; omega⟩
    · cases hc'
  · show (pk_fin W p').Pairwise _
    unfold pk_fin
    split
    · exact List.pairwise_singleton _ _
    · exact List.Pairwise.nil
  · have hc' : c ∈ pk_fin W p' := hc
    unfold pk_fin at hc'
    split at hc'
    · rw [List.mem_singleton.mp hc']
      exact Or.inl (hend e q he)
    · cases hc'
  · show D.2.1 k = 7 ∨ D.2.1 k = pu_refs E rg ob' _ k + _
    rw [hrefs]; exact hi.2.2.2.1.1 k c1 c2 ((hsome k).symm.trans c3)
  · show pu_refs E rg ob' _ k + _ = 0
    rw [hrefs]; exact hi.2.2.2.1.2.1 k c1 c2 ((hsome k).symm.trans c3)
  · have he' : ob' e = some q := he
    have h1 := hws e
    rw [he'] at h1
    cases h2 : D.1 e with
    | none => rw [h2] at h1; cases h1
    | some o =>
      rw [h2] at h1
      exact hi.2.2.2.2.2 e o h2 w (by have := Option.some.inj h1; dsimp only at this; rw [← this]; exact hw2)
/-- which is the lowest, when those below i are seen -/
def lo_seen (ob : PB) (p i : Nat) : Option Nat → Prop
  | none => ∀ (k : Nat) (o : PO), k < i → ob k = some o → o.1 < p
  | some j => ∃ q, ob j = some q ∧ j < i ∧ p ≤ q.1 ∧ ∀ (k : Nat) (o : PO), k < i → ob k = some o → p ≤ o.1 → q.1 ≤ o.1
def en0 : Option Nat → Int32
  | none => 0
  | some j => nI j
theorem lo_seen.skip {ob : PB} {p i : Nat} {bo : Option Nat} (h : lo_seen ob p i bo) (hn : ∀ o, ob i = some o → o.1 < p) : lo_seen ob p (i + 1) bo := by
  cases bo with
  | none =>
    intro k o hk ho
    by_cases hki : k = i
    · subst hki; exact hn o ho
    · exact h k o (by omega) ho
  | some j =>
    obtain ⟨q, q1, q2, q3, q4⟩ := h
    refine ⟨q, q1, by omega, q3, fun k o hk ho hp => ?_⟩
    by_cases hki : k = i
    · subst hki; have := hn o ho; omega
    · exact q4 k o (by omega) ho hp
theorem lo_seen.keep {ob : PB} {p i j : Nat} {q c : PO} (h : lo_seen ob p i (some j)) (hj : ob j = some q) (hc : ob i = some c) (hl : q.1 ≤ c.1) : lo_seen ob p (i + 1) (some j) := by
  obtain ⟨q', q1, q2, q3, q4⟩ := h
  rw [hj] at q1; cases q1
  refine ⟨q, hj, by omega, q3, fun k o hk ho hp => ?_⟩
  by_cases hki : k = i
  · subst hki; rw [hc] at ho; cases ho; exact hl
  · exact q4 k o (by omega) ho hp
theorem lo_seen.new {ob : PB} {p i : Nat} {bo : Option Nat} {c : PO} (h : lo_seen ob p i bo) (hc : ob i = some c) (hp : p ≤ c.1) (hl : ∀ (j : Nat) (q : PO), bo = some j → ob j = some q → c.1 ≤ q.1) : lo_seen ob p (i + 1) (some i) := by
  refine ⟨c, hc, by omega, hp, fun k o hk ho hpo => ?_⟩
  by_cases hki : k = i
  · subst hki; rw [hc] at ho; cases ho; exact Nat.le_refl _
  · cases bo with
    | none => have := h k o (by omega) ho; omega
    | some j =>
      obtain ⟨q', q1, q2, q3, q4⟩ := h
      have := q4 k o (by omega) ho hpo
      have := hl j q' rfl q1
      omega
variable {D : PD} {S : GS}
theorem sx_low {p : Nat} {post : Int32 → GS → Prop} (hE : E ≤ 40) (hr : ∀ (e : Nat) (q : PO), D.1 e = some q → 1 ≤ e ∧ e ≤ E ∧ q.1 < 2 ^ 31) (hx : xr E rg D S) (hp : p < 2 ^ 31) (h0 : (∀ (e : Nat) (q : PO), D.1 e = some q → q.1 < p) → post 0 S) (h1 : ∀ (e : Nat) (q : PO), pk_low D.1 p e q → post (nI e) S) : wp_X_lowestFrom W E [nI p] S post := by
  intro V hV
  have loop : ∀ m i bo, i + m = E → lo_seen D.1 p (i + 1) bo → V 4 S [nI p, en0 bo, nI (i + 1)] := by
    intro m
    induction m with
    | zero =>
      intro i bo h hs
      refine hV 4 S _ ⟨fun _ => ?_, fun h2 => absurd (nI_le (by omega) (by omega)) h2⟩
      cases bo with
      | none => exact h0 (fun e q he => hs e q (by have := hr e q he; omega) he)
      | some j =>
        obtain ⟨q, q1, q2, q3, q4⟩ := hs
        exact h1 j q ⟨q1, q3, fun e' q' he' => q4 e' q' (by have := hr e' q' he'; omega) he'⟩
    | succ m ih =>
      intro i bo h hs
      refine hV 4 S _ ⟨fun h2 => absurd h2 (nI_ge (by omega) (by omega)), fun _ => ?_⟩
      refine sx_used (fun e q he => (hr e q he).2.2) hx hE (by omega) (by omega) (fun hd => ⟨fun _ y3 e3 => ⟨fun _ y4 e4 => ?_, fun h3 => absurd e3 h3⟩, fun h3 => zero_ne h3⟩) (fun c hd => ⟨fun h3 => one_ne h3, fun _ => ⟨vp_in_nI (by omega) (by omega), ?_⟩⟩)
      · rw [nI_1] at e4; subst e4
        exact ih (i + 1) bo (by omega) (hs.skip (fun o ho => by rw [hd] at ho; cases ho))
      · have hc31 := (hr (i + 1) c hd).2.2
        rw [nI_clamp (by omega), (hx.2.2.1 (i + 1) c hd).1]
        refine ⟨fun h3 y8 e8 => ⟨fun _ y9 e9 => ?_, fun h4 => absurd e8 h4⟩, fun h3 y8 e8 => ⟨fun h4 => by rw [e8] at h4; exact one_ne h4, fun _ => ?_⟩⟩
        · have := (nI_ltI hc31 hp).mp h3
          rw [nI_1] at e9; subst e9
          exact ih (i + 1) bo (by omega) (hs.skip (fun o ho => by rw [hd] at ho; cases ho; exact this))
        · have hpc := mt (nI_ltI hc31 hp).mpr h3
          cases bo with
          | none =>
            refine ⟨fun _ y9 e9 => ?_, fun h4 => absurd rfl h4⟩
            rw [nI_1] at e9; subst e9
            exact ih (i + 1) (some (i + 1)) (by omega) (hs.new hd (by omega) (fun _ _ h => by cases h))
          | some j =>
            obtain ⟨q, q1, q2, q3, q4⟩ := id hs
            have hj := hr j q q1
            refine ⟨fun h4 => absurd h4 (nI_ne0 (by omega) (by omega)), fun _ => ⟨vp_in_nI (by omega) (by omega), vp_in_nI (by omega) (by omega), ?_⟩⟩
            show (S 1 (nI j).toNatClampNeg ≤ _ → _) ∧ (¬ S 1 (nI j).toNatClampNeg ≤ _ → _)
            rw [nI_clamp (by omega), (hx.2.2.1 j q q1).1]
            refine ⟨fun h4 y9 e9 => ?_, fun h4 y9 e9 => ?_⟩
            · rw [nI_1] at e9; subst e9
              exact ih (i + 1) (some j) (by omega) (hs.keep q1 hd ((nI_leI hj.2.2 hc31).mp h4))
            · rw [nI_1] at e9; subst e9
              have := mt (nI_leI hj.2.2 hc31).mpr h4
              exact ih (i + 1) (some (i + 1)) (by omega) (hs.new hd (by omega) (fun j' q' h5 h6 => by cases h5; rw [q1] at h6; cases h6; omega))
  refine hV 0 S _ (fun y1 e1 y2 e2 => ?_)
  subst e1; subst e2
  exact loop E 0 none (by omega) (fun k o hk ho => by have := hr k o ho; omega)
theorem sx_wordsOf' {e : Nat} {q : PO} {post : Int32 → GS → Prop} (hb : W ≤ 400 ∧ E ≤ 40) (hg : 1 ≤ e ∧ e ≤ E ∧ 1 ≤ q.2.length ∧ q.2.length ≤ 21 ∧ q.1 + (q.2.length + 1) ≤ W) (hx : xr E rg D S) (hd : D.1 e = some q) (hp : post (nI (q.2.length + 1)) S) : wp_X_wordsOf W E [nI e] S post := by
  obtain ⟨x1, x2, x3, x4⟩ := hx.2.2.1 e q hd
  intro V hV
  refine hV 0 S _ ⟨vp_in_nI (by omega) (by omega), ?_, ?_⟩
  · rw [nI_clamp (by omega), x1]; exact vp_in_nI (by omega) (by omega)
  · rw [nI_clamp (by omega), x1, nI_clamp (by omega), x2, show (2 : Int32) = nI 2 from rfl, nI_add, show q.2.length - 1 + 2 = q.2.length + 1 by omega]
    exact hp
theorem xr.move {p e : Nat} {q : PO} (hx : xr E rg D S) (hd : D.1 e = some q) (hl : 1 ≤ q.2.length) (hap : ∀ (k : Nat) (o : PO), k ≠ e → D.1 k = some o → o.1 + (o.2.length + 1) ≤ p ∨ p + (q.2.length + 1) ≤ o.1) : xr E rg (va_up D.1 e (some (p, q.2)), D.2.1, D.2.2) (gx_set 1 e (nI p) (gx_row 0 (va_cpy (S 0) (S 0) q.1 p (q.2.length + 1)) S)) := by
  obtain ⟨h1, h2, h3, h4, h5⟩ := hx
  refine ⟨h1, fun k k1 k2 hk => ?_, fun k o hk => ?_, h4, h5⟩
  · have hk' : va_up D.1 e (some (p, q.2)) k = none := hk
    have hke : k ≠ e := fun z => by subst z; rw [va_up_self] at hk'; cases hk'
    rw [va_up_ne _ _ hke] at hk'
    exact (pk_un hke).trans (h2 k k1 k2 hk')
  · have hk' : va_up D.1 e (some (p, q.2)) k = some o := hk
    by_cases hke : k = e
    · subst hke
      rw [va_up_self] at hk'
      cases hk'
      obtain ⟨a, b, c, d⟩ := h3 k q hd
      refine ⟨pk_us, ?_, fun i w hw => ?_, d⟩
      · show va_cpy (S 0) (S 0) q.1 p (q.2.length + 1) p = nI (q.2.length - 1)
        rw [pk_cpy_in (Nat.le_refl _) (by omega), Nat.sub_self]; exact b
      · have hil := (List.getElem?_eq_some_iff.mp hw).1
        show va_cpy (S 0) (S 0) q.1 p (q.2.length + 1) (p + 1 + i) = w
        have hil' : i < q.2.length := hil
        rw [pk_cpy_in (by omega) (by omega), show q.1 + (p + 1 + i - p) = q.1 + 1 + i by omega]; exact c i w hw
    · rw [va_up_ne _ _ hke] at hk'
      obtain ⟨a, b, c, d⟩ := h3 k o hk'
      have hdis := hap k o hke hk'
      refine ⟨(pk_un hke).trans a, ?_, fun i w hw => ?_, d⟩
      · show va_cpy (S 0) (S 0) q.1 p (q.2.length + 1) o.1 = _
        rw [pk_cpy_out (by omega)]; exact b
      · have hil := (List.getElem?_eq_some_iff.mp hw).1
        show va_cpy (S 0) (S 0) q.1 p (q.2.length + 1) (o.1 + 1 + i) = w
        rw [pk_cpy_out (by omega)]; exact c i w hw
theorem mr.move {z p e : Nat} {q : PO} (hm : mr W E z rg D S) (hd : D.1 e = some q) (hl : 1 ≤ q.2.length) (hap : ∀ (k : Nat) (o : PO), k ≠ e → D.1 k = some o → o.1 + (o.2.length + 1) ≤ p ∨ p + (q.2.length + 1) ≤ o.1) : mr W E z rg (va_up D.1 e (some (p, q.2)), D.2.1, D.2.2) (gx_set 2 e (nI p) (gx_row 5 (va_cpy (S 5) (S 5) q.1 p (q.2.length + 1)) S)) := by
  obtain ⟨h0, h1, h2, h3, h5⟩ := hm
  refine ⟨h0, h1, fun k k1 k2 hk => ?_, fun k o hk => ?_, h5⟩
  · have hk' : va_up D.1 e (some (p, q.2)) k = none := hk
    have hke : k ≠ e := fun z => by subst z; rw [va_up_self] at hk'; cases hk'
    rw [va_up_ne _ _ hke] at hk'
    exact h2 k k1 k2 hk'
  · have hk' : va_up D.1 e (some (p, q.2)) k = some o := hk
    by_cases hke : k = e
    · subst hke
      rw [va_up_self] at hk'
      cases hk'
      obtain ⟨a0, a, b, c, d⟩ := h3 k q hd
      refine ⟨a0, pk_us, b, fun i w hw => ?_, d⟩
      have hil := (List.getElem?_eq_some_iff.mp hw).1
      have hil' : i < q.2.length := hil
      show va_cpy (S 5) (S 5) q.1 p (q.2.length + 1) (p + 1 + i) = w
      rw [pk_cpy_in (by omega) (by omega), show q.1 + (p + 1 + i - p) = q.1 + 1 + i by omega]; exact c i w hw
    · rw [va_up_ne _ _ hke] at hk'
      obtain ⟨a0, a, b, c, d⟩ := h3 k o hk'
      have hdis := hap k o hke hk'
      refine ⟨a0, (pk_un hke).trans a, b, fun i w hw => ?_, d⟩
      have hil := (List.getElem?_eq_some_iff.mp hw).1
      show va_cpy (S 5) (S 5) q.1 p (q.2.length + 1) (o.1 + 1 + i) = w
      rw [pk_cpy_out (by omega)]; exact c i w hw
theorem pk_same {ob : PB} {e p : Nat} {q : PO} (hd : ob e = some q) (hp : q.1 = p) : va_up ob e (some (p, q.2)) = ob := by
  funext k
  by_cases hk : k = e
  · subst hk; rw [va_up_self, hd, ← hp]
  · rw [va_up_ne _ _ hk]
theorem sf_fin {p : Nat} {v : Int32} {post : Int32 → GS → Prop} (hb : 16 ≤ W ∧ W ≤ 400) (hx : xr E rg D S) (hpW : p ≤ W) (hp : ∀ S' : GS, xr E rg (D.1, D.2.1, pk_fin W p) S' → post v S') : wp_F_clear W E [] S (fun S1 => (((nI W) ≤ nI p → post v S1) ∧ (¬ (nI W) ≤ nI p → wp_F_add W E [nI p, (nI W) - nI p] S1 (fun S3 => post v S3)))) := by
  intro V hV
  refine hV 0 S [] (fun S1 e1 => ?_)
  have hx1 : xr E rg (D.1, D.2.1, []) S1 := by
    subst e1
    exact ⟨hx.1, hx.2.1, hx.2.2.1, rfl, fun i c hc => by cases hc⟩
  clear e1
  unfold pk_fin at hp
  refine ⟨fun h => hp S1 ?_, fun h => ?_⟩
  · have := (nI_leI (by omega) (by omega)).mp h
    rw [if_neg (by omega)]; exact hx1
  · have := mt (nI_leI (a := W) (b := p) (by omega) (by omega)).mpr h
    rw [if_pos (by omega)] at hp
    rw [pk_sub (by omega)]
    exact sf_add hx1 (by show 0 < W; omega) hb.2 (fun S3 h3 _ _ => hp S3 h3)
theorem sx_move {D' : PD} {mv : Nat} {post : Int32 → GS → Prop} (hb : 16 ≤ W ∧ W ≤ 400 ∧ 2 ≤ E ∧ E ≤ 40) (hg : pu_geo W E D.1 D.2.2) (hx : xr E rg D S) (h : pk_to W D D' mv) (hp : ∀ S' : GS, xr E rg D' S' → post (nI mv) S') : wp_X_moveTogether W E [] S post := by
  intro V hV
  obtain ⟨m, p', ob', hr, rfl⟩ := h
  have hmE : ∀ (m p mv' : Nat) (ob : PB), pk_inv W E p ob → pk_run m p mv' ob ob' p' mv → m = pk_num E p ob := by
    intro m
    induction m with
    | zero =>
      intro p mv' ob hi hr
      exact (pk_num_zero hr.1).symm
    | succ m ih =>
      intro p mv' ob hi hr
      obtain ⟨e, q, hl, hr⟩ := hr
      have := ih _ _ _ (hi.step hl) hr
      have := pk_num_step hi hl
      omega
  have loop : ∀ (m rd p mv' : Nat) (ob : PB) (S : GS), 1 ≤ rd → rd + m ≤ E + 1 → pk_inv W E p ob → pk_run m p mv' ob ob' p' mv → xr E rg (ob, D.2.1, D.2.2) S → V 6 S [nI mv', nI p, nI rd] := by
    intro m
    induction m with
    | zero =>
      intro rd p mv' ob S h1 hrd hi hr hx
      obtain ⟨r1, r2, r3, r4⟩ := hr
      subst r2; subst r3; subst r4
      have hw := hi.2.1
      refine hV 6 S _ ⟨fun _ => sf_fin ⟨hb.1, hb.2.1⟩ hx hw hp, fun _ => ?_⟩
      refine sx_low (D := (ob', D.2.1, D.2.2)) hb.2.2.2 (fun e q he => by have := hi.1.1 e q he; omega) hx (by omega) (fun _ => ⟨fun h => zero_ne h, fun _ => sf_fin ⟨hb.1, hb.2.1⟩ hx hw hp⟩) (fun e q hl => ?_)
      have := r1 e q hl.1
      have := hl.2.1
      omega
    | succ m ih =>
      intro rd p mv' ob S h1 hrd hi hr hx
      obtain ⟨e, q, hl, hr⟩ := hr
      have hw := hi.2.1
      have hgq := hi.1.1 e q hl.1
      have hpq := hl.2.1
      refine hV 6 S _ ⟨fun h => absurd h (nI_ge (by omega) (by omega)), fun _ => ?_⟩
      refine sx_low (D := (ob, D.2.1, D.2.2)) hb.2.2.2 (fun e q he => by have := hi.1.1 e q he; omega) hx (by omega) (fun h0 => ?_) (fun e' q' hl' => ?_)
      · have := h0 e q hl.1; omega
      · obtain ⟨rfl, rfl⟩ := hl.uniq hi hl'
        refine ⟨fun _ => ?_, fun h => absurd h (nI_ne0 (by omega) (by omega))⟩
        refine sx_wordsOf' (D := (ob, D.2.1, D.2.2)) ⟨hb.2.1, hb.2.2.2⟩ hgq hx hl.1 ⟨vp_in_nI (by omega) (by omega), ?_⟩
        rw [nI_clamp (by omega), (hx.2.2.1 e q hl.1).1]
        refine ⟨fun h y9 e9 y10 e10 => ?_, fun h => ⟨vp_in_nI (by omega) (by omega), nI_pos (by omega), nI_pos (by omega), nI_pos (by omega), ?_⟩⟩
        · have hqp := (nI_eq (by omega) (by omega)).mp h
          rw [nI_add] at e9
          rw [nI_1] at e10
          subst e9; subst e10
          rw [if_pos hqp] at hr
          have hi' := hi.step hl
          rw [pk_same hl.1 hqp] at hr hi'
          exact ih (rd + 1) _ mv' ob S (by omega) (by omega) hi' hr hx
        · have hqp := mt (nI_eq (a := q.1) (b := p) (by omega) (by omega)).mpr h
          rw [nI_clamp (by omega), nI_clamp (by omega), nI_clamp (by omega)]
          refine ⟨by omega, by omega, fun S11 e11 => ⟨vp_in_nI (by omega) (by omega), fun S12 e12 y13 e13 y14 e14 y15 e15 => ?_⟩⟩
          rw [nI_1] at e13 e15
          rw [nI_add] at e14
          subst e13; subst e14; subst e15; subst e12; subst e11
          rw [if_neg hqp] at hr
          exact ih (rd + 1) _ (mv' + 1) _ _ (by omega) (by omega) (hi.step hl) hr (xr.move (D := (ob, D.2.1, D.2.2)) hx hl.1 hgq.2.2.1 (fun k o hk ho => by have := hl.apart hi k o hk ho; omega))
  refine hV 0 S [] (fun y1 e1 y2 e2 y3 e3 => ?_)
  subst e1; subst e2; subst e3
  have h0 := pk_inv.start hg
  have hm : m ≤ E := by
    rw [hmE m 0 0 D.1 h0 hr]
    have := pu_sum_le (f := fun i => if 0 ≤ ((D.1 i).getD (0, [])).1 ∧ (D.1 i).isSome = true then 1 else 0) (g := fun _ => 1) (n := E) (fun i _ _ => by split <;> omega)
    rw [pu_sum_const] at this
    unfold pk_num
    omega
  exact loop m 1 0 0 D.1 S (by omega) (by omega) h0 hr hx
theorem sm_packEnd {z p : Nat} {t : Int32} {v : Int32} {post : Int32 → GS → Prop} (hb : 16 ≤ W ∧ W ≤ 400) (hm : mk W E z t rg D S) (hl : D.2.2.length ≤ 400) (hpW : p ≤ W) (hp : ∀ S' : GS, mk W E (z + 400) t rg (D.1, D.2.1, pk_fin W p) S' → post v S') : (∀ S1 : GS, S1 = gx_set 100 3 0 S → (((S1 100 1) ≤ nI p → post v S1) ∧ (¬ (S1 100 1) ≤ nI p → wp_M_give  [nI p, (S1 100 1) - nI p] S1 (fun S2 => post v S2)))) := by
  intro S1 e1
  obtain ⟨⟨a0, a1, a2, a3, c, P, Z, m1, m2, m3, m4, m5, m6, m7, m8⟩, ht⟩ := hm
  have hm1 : mk W E (z + 400) t rg (D.1, D.2.1, []) S1 := by
    subst e1
    exact ⟨⟨a0, a1, a2, a3, c, [], [], (by show c ≤ z + 400 + 0; omega), m2, rfl, (fun i q hq => by cases hq), List.Perm.refl _, List.Pairwise.nil, (fun q hq => by cases hq), rfl⟩, ht⟩
  clear e1
  rw [hm1.1.1.1]
  unfold pk_fin at hp
  refine ⟨fun h => hp S1 ?_, fun h => ?_⟩
  · have := (nI_leI (by omega) (by omega)).mp h
    rw [if_neg (by omega)]; exact hm1
  · have := mt (nI_leI (a := W) (b := p) (by omega) (by omega)).mpr h
    rw [if_pos (by omega)] at hp
    rw [pk_sub (by omega)]
    exact sm_give hm1 (by show 0 < 400; omega) (fun S3 h3 _ _ => hp S3 h3)
theorem cp_0 (f : Nat → Int32) (a b : Nat) : va_cpy f f a b 0 = f := by
  funext k
  exact pk_cpy_out (by omega)
theorem cp_s (f : Nat → Int32) (a b k : Nat) : upd (va_cpy f f a b k) (b + k) (f (a + k)) = va_cpy f f a b (k + 1) := by
  funext j
  by_cases hj : j = b + k
  · subst hj
    rw [pk_us, pk_cpy_in (by omega) (by omega), show a + (b + k - b) = a + k by omega]
  · rw [pk_un hj]
    by_cases h : b ≤ j ∧ j < b + k
    · rw [pk_cpy_in h.1 h.2, pk_cpy_in h.1 (by omega)]
    · rw [pk_cpy_out (by omega), pk_cpy_out (by omega)]
theorem gr_self (k : Nat) (S : GS) : gx_row k (S k) S = S := by
  funext b
  by_cases h : b = k
  · subst h; exact if_pos rfl
  · exact if_neg h
theorem gr_set (k i : Nat) (v : Int32) (f : Nat → Int32) (S : GS) : gx_set k i v (gx_row k f S) = gx_row k (upd f i v) S := by
  funext b
  by_cases h : b = k
  · subst h
    show (if b = b then upd (if b = b then f else S b) i v else _) = (if b = b then _ else _)
    rw [if_pos rfl, if_pos rfl, if_pos rfl]
  · show (if b = k then _ else (if b = k then _ else S b)) = (if b = k then _ else S b)
    rw [if_neg h, if_neg h, if_neg h]
theorem sm_pack {z : Nat} {t : Int32} {D' : PD} {mv : Nat} {post : Int32 → GS → Prop} (hb : 16 ≤ W ∧ W ≤ 400 ∧ 2 ≤ E ∧ E ≤ 40) (hg : pu_geo W E D.1 D.2.2) (hm : mk W E z t rg D S) (h : pk_to W D D' mv) (hp : ∀ S' : GS, mk W E (z + 400) t rg D' S' → post (nI mv) S') : wp_M_pack [] S post := by
  intro V hV
  obtain ⟨m, p', ob', hr, rfl⟩ := h
  have hlen := hg.len
  -- which is the lowest
  have low : ∀ (p : Nat) (ob : PB) (S : GS) (v1 : Int32), pk_inv W E p ob → mk W E z t rg (ob, D.2.1, D.2.2) S → ((∀ (e : Nat) (q : PO), ob e = some q → q.1 < p) → V 6 S [v1, nI p, 0]) → (∀ (e : Nat) (q : PO), pk_low ob p e q → V 116 S [v1, nI p, 1, nI e, nI q.1, nI (q.2.length + 1), 0]) → ∀ (m i : Nat) (bo : Option Nat), i + m = E → lo_seen ob p (i + 1) bo → V 16 S [v1, nI p, 1, en0 bo, nI (i + 1)] := by
    intro p ob S v1 hi hm h0 h1 m
    have hr : ∀ (e : Nat) (q : PO), ob e = some q → 1 ≤ e ∧ e ≤ E ∧ q.1 < 2 ^ 31 := fun e q he => by have := hi.1.1 e q he; omega
    have hp31 := hi.2.1
    induction m with
    | zero =>
      intro i bo h hs
      refine hV 16 S _ ⟨fun _ => ?_, fun h2 => absurd (by rw [hm.1.1.2]; exact nI_lt (by omega) (by omega)) h2⟩
      cases bo with
      | none =>
        refine ⟨fun _ y1 e1 => ⟨fun _ => ?_, fun h => absurd e1 h⟩, fun h => absurd (Int32.le_refl _) h⟩
        subst e1
        exact h0 (fun e q he => hs e q (by have := hr e q he; omega) he)
      | some j =>
        obtain ⟨q, q1, q2, q3, q4⟩ := hs
        have hj := hi.1.1 j q q1
        have hmq := hm.1.2.2.2.1 j q q1
        refine ⟨fun h => absurd h (nI_nle (by omega) (by omega)), fun _ y5 e5 => ⟨fun h => by rw [e5] at h; exact one_ne h, fun _ => ⟨vp_in_nI (by omega) (by decide), fun y6 e6 => ⟨vp_in_nI (by omega) (by decide), fun y7 e7 y8 e8 => ?_⟩⟩⟩⟩
        have e6' : y6 = S 2 (nI j).toNatClampNeg := e6
        have e7' : y7 = S 3 (nI j).toNatClampNeg + 2 := e7
        rw [nI_clamp (by omega), hmq.2.1] at e6'
        rw [nI_clamp (by omega), hmq.2.2.1, show (2 : Int32) = nI 2 from rfl, nI_add, show q.2.length - 1 + 2 = q.2.length + 1 by omega] at e7'
        subst e5; subst e6'; subst e7'; subst e8
        exact h1 j q ⟨q1, q3, fun e' q' he' => q4 e' q' (by have := hr e' q' he'; omega) he'⟩
    | succ m ih =>
      intro i bo h hs
      refine hV 16 S _ ⟨fun h2 => absurd h2 (by rw [hm.1.1.2]; exact nI_nlt (by omega) (by omega)), fun _ => ⟨vp_in_nI (by omega) (by decide), ?_⟩⟩
      rw [nI_clamp (by omega)]
      refine hm.1.live (by omega) (by omega) (fun hd y9 e9 => ?_) (fun c hd => ⟨vp_in_nI (by omega) (by decide), ?_⟩)
      · rw [nI_1] at e9; subst e9
        exact ih (i + 1) bo (by omega) (hs.skip (fun o ho => by have hd' : ob (i + 1) = none := hd; rw [hd'] at ho; cases ho))
      · have hd' : ob (i + 1) = some c := hd
        have hc31 := (hr (i + 1) c hd').2.2
        rw [(hm.1.2.2.2.1 (i + 1) c hd).2.1]
        refine ⟨fun h3 y9 e9 => ?_, fun h3 => ?_⟩
        · have := (nI_ltI hc31 (by omega)).mp h3
          rw [nI_1] at e9; subst e9
          exact ih (i + 1) bo (by omega) (hs.skip (fun o ho => by rw [hd'] at ho; cases ho; exact this))
        · have hpc := mt (nI_ltI hc31 (show p < 2 ^ 31 by omega)).mpr h3
          cases bo with
          | none =>
            refine ⟨fun _ y9 e9 => ?_, fun h4 => absurd rfl h4⟩
            rw [nI_1] at e9; subst e9
            exact ih (i + 1) (some (i + 1)) (by omega) (hs.new hd' (by omega) (fun _ _ h => by cases h))
          | some j =>
            obtain ⟨q, q1, q2, q3, q4⟩ := id hs
            have hj := hr j q q1
            refine ⟨fun h4 => absurd h4 (nI_ne0 (by omega) (by omega)), fun _ => ⟨vp_in_nI (by omega) (by decide), vp_in_nI (by omega) (by decide), ?_⟩⟩
            show (S 2 (nI j).toNatClampNeg ≤ _ → _) ∧ (¬ S 2 (nI j).toNatClampNeg ≤ _ → _)
            rw [nI_clamp (by omega), (hm.1.2.2.2.1 j q q1).2.1]
            refine ⟨fun h4 y9 e9 => ?_, fun h4 y9 e9 => ?_⟩
            · rw [nI_1] at e9; subst e9
              exact ih (i + 1) (some j) (by omega) (hs.keep q1 hd' ((nI_leI hj.2.2 hc31).mp h4))
            · rw [nI_1] at e9; subst e9
              have := mt (nI_leI hj.2.2 hc31).mpr h4
              exact ih (i + 1) (some (i + 1)) (by omega) (hs.new hd' (by omega) (fun j' q' h5 h6 => by cases h5; rw [q1] at h6; cases h6; omega))
  have loop : ∀ (m p mv' : Nat) (ob : PB) (S : GS), pk_inv W E p ob → pk_run m p mv' ob ob' p' mv → mk W E z t rg (ob, D.2.1, D.2.2) S → V 6 S [nI mv', nI p, 1] := by
    intro m
    induction m with
    | zero =>
      intro p mv' ob S hi hr hm
      obtain ⟨r1, r2, r3, r4⟩ := hr
      subst r2; subst r3; subst r4
      refine hV 6 S _ ⟨fun h => one_ne h, fun _ y4 e4 y5 e5 => ?_⟩
      subst e4; subst e5
      refine low p' ob' S (nI mv) hi hm (fun _ => ?_) (fun e q hl => ?_) E 0 none (Nat.zero_add _) (fun k o hk ho => by have := hi.1.1 k o ho; omega)
      · exact hV 6 S _ ⟨fun _ => sm_packEnd ⟨hb.1, hb.2.1⟩ hm (by show D.2.2.length ≤ 400; omega) hi.2.1 hp, fun h => zero_ne h⟩
      · have := r1 e q hl.1
        have := hl.2.1
        omega
    | succ m ih =>
      intro p mv' ob S hi hr hm
      obtain ⟨e, q, hl, hr⟩ := hr
      have hw := hi.2.1
      have hgq := hi.1.1 e q hl.1
      have hpq := hl.2.1
      refine hV 6 S _ ⟨fun h => one_ne h, fun _ y4 e4 y5 e5 => ?_⟩
      subst e4; subst e5
      refine low p ob S (nI mv') hi hm (fun h0 => ?_) (fun e' q' hl' => ?_) E 0 none (Nat.zero_add _) (fun k o hk ho => by have := hi.1.1 k o ho; omega)
      · have := h0 e q hl.1; omega
      · obtain ⟨rfl, rfl⟩ := hl.uniq hi hl'
        have copy : ∀ (j k : Nat), k + j = q.2.length + 1 → V 116 (gx_row 5 (va_cpy (S 5) (S 5) q.1 p k) S) [nI mv', nI p, 1, nI e, nI q.1, nI (q.2.length + 1), nI k] := by
          intro j
          induction j with
          | zero =>
            intro k hk
            have : k = q.2.length + 1 := by omega
            subst this
            have hmv := mr.move (D := (ob, D.2.1, D.2.2)) (p := p) hm.1 hl.1 hgq.2.2.1 (fun k o hk ho => by have := hl.apart hi k o hk ho; omega)
            refine hV 116 _ _ ⟨fun _ => ⟨fun h => ⟨vp_in_nI (by omega) (by decide), fun S1 e1 y2 e2 => ?_⟩, fun h y3 e3 => ⟨vp_in_nI (by omega) (by decide), fun S4 e4 y5 e5 => ?_⟩⟩, fun h => absurd (Int32.le_refl _) h⟩
            · have hqp := (nI_eq (by omega) (by omega)).mp h
              rw [nI_clamp (by omega)] at e1
              rw [nI_add] at e2
              subst e1; subst e2
              rw [if_pos hqp] at hr
              exact ih _ mv' _ _ (hi.step hl) hr ⟨hmv, hm.2⟩
            · have hqp := mt (nI_eq (a := q.1) (b := p) (by omega) (by omega)).mpr h
              rw [nI_clamp (by omega)] at e4
              rw [nI_add] at e5
              rw [nI_1] at e3
              subst e3; subst e4; subst e5
              rw [if_neg hqp] at hr
              exact ih _ (mv' + 1) _ _ (hi.step hl) hr ⟨hmv, hm.2⟩
          | succ j ihj =>
            intro k hk
            refine hV 116 _ _ ⟨fun h => absurd h (nI_ge (by omega) (by omega)), fun _ => ?_⟩
            rw [nI_add, nI_add, nI_clamp (by omega), nI_clamp (by omega)]
            refine ⟨vp_in_nI (by omega) (by decide), vp_in_nI (by omega) (by decide), fun S6 e6 y7 e7 => ?_⟩
            rw [nI_1] at e7
            have e8 : S6 = gx_row 5 (va_cpy (S 5) (S 5) q.1 p (k + 1)) S := by
              rw [e6, gr_set, ← cp_s]
              show gx_row 5 (upd _ _ (va_cpy (S 5) (S 5) q.1 p k (q.1 + k))) S = _
              rw [pk_cpy_out (j := q.1 + k) (by omega)]
            subst e7; subst e8
            exact ihj (k + 1) (by omega)
        have := copy (q.2.length + 1) 0 (Nat.zero_add _)
        rw [cp_0, gr_self] at this
        exact this
  refine hV 0 S [] (fun y1 e1 y2 e2 y3 e3 => ?_)
  subst e1; subst e2; subst e3
  exact loop m 0 0 D.1 S (pk_inv.start hg) hr hm
theorem si_compact : sm_compact W E (JJ W E) := by
  intro n X M hn hj PX hP
  obtain ⟨rg, D, hi, hx, hm⟩ := hj
  obtain ⟨D', mv, hto⟩ := pk_to.ex hi.2.1
  intro V hV
  refine hV 0 X [] (sx_move hi.1 hi.2.1 hx hto (fun X1 hX1 => hP _ X1 (fun PM hM V2 hV2 => ?_)))
  refine hV2 0 M [] (fun S1 e1 => ?_)
  subst e1
  exact sm_pack hi.1 hi.2.1 (mk.start hm 0) hto (fun S' hS' => hM S' (JJ.of (hto.inv hi) hX1 hS' (by omega)))
end PK
