/-! The mathematical state: registers, objects (an entry's address and words: its class and its fields), counts, free chunks from the oldest to the youngest. -/
abbrev PO : Type := Nat × List Int32
abbrev PB : Type := Nat → Option PO
/-- the entry of a live object's number -/
def pu_ent (E : Nat) (ob : PB) (v : Int32) : Option Nat :=
  if v = nI (2 * (v.toInt.toNat / 2)) ∧ 1 ≤ v.toInt.toNat / 2 ∧ v.toInt.toNat / 2 ≤ E ∧ (ob (v.toInt.toNat / 2)).isSome = true then some (v.toInt.toNat / 2) else none
theorem pu_ent_some {E : Nat} {ob : PB} {v : Int32} {e : Nat} (hE : E < 2 ^ 29) : pu_ent E ob v = some e ↔ (1 ≤ e ∧ e ≤ E ∧ v = nI (2 * e) ∧ (ob e).isSome = true) := by
  unfold pu_ent
  constructor
  · intro h
    split at h
    · rename_i hc
      obtain ⟨h1, h2, h3, h4⟩ := hc
      cases h
      exact ⟨h2, h3, h1, h4⟩
    · cases h
  · rintro ⟨h1, h2, h3, h4⟩
    have hv : v.toInt.toNat / 2 = e := by
      rw [h3, nI_toInt (by omega)]
      omega
    rw [if_pos (by rw [hv]; exact ⟨h3, h1, h2, h4⟩), hv]
theorem pu_ent_none {E : Nat} {ob : PB} {v : Int32} (hE : E < 2 ^ 29) : pu_ent E ob v = none ↔ ∀ e, 1 ≤ e → e ≤ E → v = nI (2 * e) → (ob e).isSome = false := by
  constructor
  · intro h e h1 h2 h3
    cases h4 : (ob e).isSome with
    | false => rfl
    | true =>
      have := (pu_ent_some (ob := ob) (v := v) hE).mpr ⟨h1, h2, h3, h4⟩
      rw [h] at this
      cases this
  · intro h
    cases h1 : pu_ent E ob v with
    | none => rfl
    | some e =>
      obtain ⟨a, b, c, d⟩ := (pu_ent_some hE).mp h1
      rw [h e a b c] at d
      cases d
theorem pu_inj {E a b : Nat} (hE : E < 2 ^ 29) (ha : a ≤ E) (hb : b ≤ E) (h : nI (2 * a) = nI (2 * b)) : a = b := by
  have := (nI_eq (a := 2 * a) (b := 2 * b) (by omega) (by omega)).mp h
  omega
/-- sums over the entries 1 .. n -/
def pu_sum (f : Nat → Nat) : Nat → Nat
  | 0 => 0
  | n + 1 => pu_sum f n + f (n + 1)
theorem pu_sum_eq {f g : Nat → Nat} {n : Nat} (h : ∀ i, 1 ≤ i → i ≤ n → f i = g i) : pu_sum f n = pu_sum g n := by
  induction n with
  | zero => rfl
  | succ n ih =>
    show pu_sum f n + f (n + 1) = pu_sum g n + g (n + 1)
    rw [ih (fun i h1 h2 => h i h1 (by omega)), h (n + 1) (by omega) (by omega)]
theorem pu_sum_up {f g : Nat → Nat} {n k : Nat} (h1 : 1 ≤ k) (h2 : k ≤ n) (h : ∀ i, 1 ≤ i → i ≤ n → i ≠ k → f i = g i) : pu_sum f n + g k = pu_sum g n + f k := by
  induction n with
  | zero => omega
  | succ n ih =>
    show pu_sum f n + f (n + 1) + g k = pu_sum g n + g (n + 1) + f k
    by_cases hk : k = n + 1
    · subst hk
      rw [pu_sum_eq (f := f) (g := g) (fun i a b => h i a (by omega) (by omega))]
      omega
    · have := ih (by omega) (fun i a b c => h i a (by omega) c)
      rw [h (n + 1) (by omega) (by omega) (by omega)]
      omega
theorem pu_sum_le {f g : Nat → Nat} {n : Nat} (h : ∀ i, 1 ≤ i → i ≤ n → f i ≤ g i) : pu_sum f n ≤ pu_sum g n := by
  induction n with
  | zero => exact Nat.le_refl _
  | succ n ih => exact Nat.add_le_add (ih (fun i a b => h i a (by omega))) (h (n + 1) (by omega) (by omega))
theorem pu_sum_const (c n : Nat) : pu_sum (fun _ => c) n = c * n := by
  induction n with
  | zero => rfl
  | succ n ih =>
    show pu_sum (fun _ => c) n + c = c * (n + 1)
    rw [ih, Nat.mul_succ]
theorem pu_sum_zero {f : Nat → Nat} {n : Nat} (h : pu_sum f n = 0) : ∀ i, 1 ≤ i → i ≤ n → f i = 0 := by
  induction n with
  | zero => intro i a b; omega
  | succ n ih =>
    have h' : pu_sum f n + f (n + 1) = 0 := h
    intro i a b
    by_cases hi : i = n + 1
    · subst hi; omega
    · exact ih (by omega) i a (by omega)
theorem pu_sum_pos {f : Nat → Nat} {n i : Nat} (a : 1 ≤ i) (b : i ≤ n) : f i ≤ pu_sum f n := by
  induction n with
  | zero => omega
  | succ n ih =>
    show f i ≤ pu_sum f n + f (n + 1)
    by_cases hi : i = n + 1
    · subst hi; omega
    · have := ih (by omega); omega
/-- an entry's words -/
def pu_ws (ob : PB) (i : Nat) : List Int32 := ((ob i).getD (0, [])).2
/-- how many references lead to entry e: from the registers, from the words of the objects that x leaves in -/
def pu_refs (E : Nat) (rg : Nat → Int32) (ob : PB) (x : Nat → Bool) (e : Nat) : Nat :=
  ((List.range 8).map rg).count (nI (2 * e)) + pu_sum (fun i => if x i = true then 0 else (pu_ws ob i).count (nI (2 * e))) E
/-- objects, counts, free chunks: what letting go changes -/
abbrev PD : Type := PB × (Nat → Nat) × List (Nat × Nat)
def pu_free (D : PD) (e : Nat) : PD := match D.1 e with
  | none => D
  | some o => (va_up D.1 e none, D.2.1, D.2.2 ++ [(o.1, o.2.length + 1)])
/-- a reference goes: the count falls; at 0 the object is let go, its words in their order first. f: how deep it may go -/
def pu_drop (E : Nat) : Nat → PD → Int32 → PD
  | 0, D, v => match pu_ent E D.1 v with
    | none => D
    | some e => if D.2.1 e = 7 then D else (D.1, va_up D.2.1 e (D.2.1 e - 1), D.2.2)
  | f + 1, D, v => match pu_ent E D.1 v with
    | none => D
    | some e => if D.2.1 e = 7 then D else
      if D.2.1 e = 1 then pu_free ((pu_ws D.1 e).foldl (fun D w => pu_drop E f D w) (D.1, va_up D.2.1 e 0, D.2.2)) e
      else (D.1, va_up D.2.1 e (D.2.1 e - 1), D.2.2)
/-- how many live entries have a count above 0 -/
def pu_pos (E : Nat) (D : PD) : Nat := pu_sum (fun i => if (D.1 i).isSome = true ∧ 0 < D.2.1 i then 1 else 0) E
/-- the counts are right, but for the words of x (already given up) and with those still to go -/
def pu_CI (E : Nat) (rg : Nat → Int32) (D : PD) (x : Nat → Bool) (pend : List Int32) : Prop :=
  (∀ e, 1 ≤ e → e ≤ E → (D.1 e).isSome = true → D.2.1 e = 7 ∨ D.2.1 e = pu_refs E rg D.1 x e + pend.count (nI (2 * e))) ∧
  (∀ e, 1 ≤ e → e ≤ E → (D.1 e).isSome = false → pu_refs E rg D.1 x e + pend.count (nI (2 * e)) = 0) ∧
  (∀ i, x i = true → (D.1 i).isSome = true ∧ D.2.1 i = 0 ∧ 1 ≤ i ∧ i ≤ E)
/-- what a drop leaves -/
def pu_after (E : Nat) (rg : Nat → Int32) (D D' : PD) (x : Nat → Bool) (pend : List Int32) : Prop :=
  pu_CI E rg D' x pend ∧ (∀ i, D'.2.1 i ≤ D.2.1 i) ∧ (∀ i, x i = true → D'.1 i = D.1 i) ∧ (∀ i, D'.1 i = D.1 i ∨ D'.1 i = none) ∧ pu_pos E D' ≤ pu_pos E D
theorem pu_after.fold {E : Nat} {rg : Nat → Int32} {f : Nat} {x : Nat → Bool}
    (ih : ∀ (D : PD) (v : Int32) (pend : List Int32), pu_CI E rg D x (v :: pend) → pu_pos E D ≤ f → pu_after E rg D (pu_drop E f D v) x pend) :
    ∀ (ws : List Int32) (D : PD) (pend : List Int32), pu_CI E rg D x (ws ++ pend) → pu_pos E D ≤ f → pu_after E rg D (ws.foldl (fun D w => pu_drop E f D w) D) x pend := by
  intro ws
  induction ws with
  | nil => intro D pend h hp; exact ⟨h, fun _ => Nat.le_refl _, fun _ _ => rfl, fun _ => Or.inl rfl, Nat.le_refl _⟩
  | cons w ws ihw =>
    intro D pend h hp
    obtain ⟨a1, a2, a3, a4, a5⟩ := ih D w (ws ++ pend) h hp
    obtain ⟨b1, b2, b3, b4, b5⟩ := ihw (pu_drop E f D w) pend a1 (Nat.le_trans a5 hp)
    refine ⟨b1, fun i => Nat.le_trans (b2 i) (a2 i), fun i hi => (b3 i hi).trans (a3 i hi), fun i => ?_, Nat.le_trans b5 a5⟩
    rcases b4 i with h1 | h1
    · rcases a4 i with h2 | h2
      · exact Or.inl (h1.trans h2)
      · exact Or.inr (h1.trans h2)
    · exact Or.inr h1
theorem pu_cnt_ne {v a : Int32} {l : List Int32} (h : v ≠ a) : (v :: l).count a = l.count a := by
  rw [List.count_cons]
  simp [h]
theorem pu_cnt_eq {v : Int32} {l : List Int32} : (v :: l).count v = l.count v + 1 := by
  rw [List.count_cons]
  simp
theorem pu_refs_out {E : Nat} {rg : Nat → Int32} {ob : PB} {x : Nat → Bool} {e k : Nat} (h1 : 1 ≤ e) (h2 : e ≤ E) (hx : x e = false) : pu_refs E rg ob (va_up x e true) k + (pu_ws ob e).count (nI (2 * k)) = pu_refs E rg ob x k := by
  have := pu_sum_up (f := fun i => if va_up x e true i = true then 0 else (pu_ws ob i).count (nI (2 * k))) (g := fun i => if x i = true then 0 else (pu_ws ob i).count (nI (2 * k))) h1 h2 (fun i _ _ hi => by
    show (if va_up x e true i = true then 0 else _) = (if x i = true then 0 else _)
    rw [va_up_ne _ _ hi])
  simp only [va_up_self, hx, if_true, Bool.false_eq_true, if_false] at this
  unfold pu_refs
  omega
theorem pu_refs_gone {E : Nat} {rg : Nat → Int32} {ob : PB} {x : Nat → Bool} {e k : Nat} (hx : x e = false) : pu_refs E rg (va_up ob e none) x k = pu_refs E rg ob (va_up x e true) k := by
  unfold pu_refs
  rw [pu_sum_eq (f := fun i => if x i = true then 0 else (pu_ws (va_up ob e none) i).count (nI (2 * k))) (g := fun i => if va_up x e true i = true then 0 else (pu_ws ob i).count (nI (2 * k)))]
  intro i _ _
  by_cases hi : i = e
  · subst hi
    simp [va_up_self, hx, pu_ws]
  · simp only [va_up_ne _ _ hi, pu_ws]
theorem pu_pos_dec {E : Nat} {D : PD} {e : Nat} (h1 : 1 ≤ e) (h2 : e ≤ E) (hs : (D.1 e).isSome = true) (hc : 0 < D.2.1 e) : pu_pos E (D.1, va_up D.2.1 e 0, D.2.2) + 1 = pu_pos E D := by
  have := pu_sum_up (f := fun i => if (D.1 i).isSome = true ∧ 0 < va_up D.2.1 e 0 i then 1 else 0) (g := fun i => if (D.1 i).isSome = true ∧ 0 < D.2.1 i then 1 else 0) h1 h2 (fun i _ _ hi => by
    show (if (D.1 i).isSome = true ∧ 0 < va_up D.2.1 e 0 i then 1 else 0) = (if (D.1 i).isSome = true ∧ 0 < D.2.1 i then 1 else 0)
    rw [va_up_ne _ _ hi])
  simp only [va_up_self, hs, hc, and_self, if_true, Nat.lt_irrefl, and_false, if_false] at this
  unfold pu_pos
  show pu_sum (fun i => if (D.1 i).isSome = true ∧ 0 < va_up D.2.1 e 0 i then 1 else 0) E + 1 = _
  omega
theorem pu_pos_le {E : Nat} {D D' : PD} (h1 : ∀ i, D'.2.1 i ≤ D.2.1 i) (h2 : ∀ i, D'.1 i = D.1 i ∨ D'.1 i = none) : pu_pos E D' ≤ pu_pos E D := by
  refine pu_sum_le (fun i _ _ => ?_)
  by_cases h : (D'.1 i).isSome = true ∧ 0 < D'.2.1 i
  · have ho : D'.1 i = D.1 i := (h2 i).resolve_right (fun z => by rw [z] at h; exact absurd h.1 (by decide))
    rw [if_pos h, if_pos ⟨by rw [← ho]; exact h.1, Nat.lt_of_lt_of_le h.2 (h1 i)⟩]
    exact Nat.le_refl _
  · rw [if_neg h]
    exact Nat.zero_le _
/-- a count that falls, but not to an end -/
theorem pu_after_dec {E : Nat} {rg : Nat → Int32} {D : PD} {x : Nat → Bool} {pend : List Int32} {e : Nat} (hE : E < 2 ^ 29) (h1 : 1 ≤ e) (h2 : e ≤ E) (hs : (D.1 e).isSome = true) (h : pu_CI E rg D x (nI (2 * e) :: pend)) (h7 : D.2.1 e ≠ 7) : pu_CI E rg (D.1, va_up D.2.1 e (D.2.1 e - 1), D.2.2) x pend ∧ 0 < D.2.1 e ∧ x e = false := by
  obtain ⟨c1, c2, c3⟩ := h
  have hce : D.2.1 e = pu_refs E rg D.1 x e + (pend.count (nI (2 * e)) + 1) := by
    have := (c1 e h1 h2 hs).resolve_left h7
    rwa [pu_cnt_eq] at this
  have hxe : x e = false := by
    cases hx : x e with
    | false => rfl
    | true => have := (c3 e hx).2.1; omega
  refine ⟨⟨fun k k1 k2 k3 => ?_, fun k k1 k2 k3 => ?_, fun i hi => ?_⟩, by omega, hxe⟩
  · show va_up D.2.1 e (D.2.1 e - 1) k = 7 ∨ va_up D.2.1 e (D.2.1 e - 1) k = _
    by_cases hk : k = e
    · subst hk
      rw [va_up_self]
      right
      show D.2.1 k - 1 = pu_refs E rg D.1 x k + pend.count (nI (2 * k))
      omega
    · rw [va_up_ne _ _ hk]
      have := c1 k k1 k2 k3
      rwa [pu_cnt_ne (fun z => hk (pu_inj hE h2 k2 z).symm)] at this
  · have := c2 k k1 k2 k3
    rwa [pu_cnt_ne (fun z => by
      have := pu_inj hE h2 k2 z
      subst this
      rw [hs] at k3
      cases k3)] at this
  · have hie : i ≠ e := fun z => by rw [z, hxe] at hi; cases hi
    have := c3 i hi
    refine ⟨this.1, ?_, this.2.2⟩
    show va_up D.2.1 e (D.2.1 e - 1) i = 0
    rw [va_up_ne _ _ hie]
    exact this.2.1
theorem pu_after_none {E : Nat} {rg : Nat → Int32} {D : PD} {x : Nat → Bool} {v : Int32} {pend : List Int32} (hE : E < 2 ^ 29) (hn : pu_ent E D.1 v = none) (h : pu_CI E rg D x (v :: pend)) : pu_CI E rg D x pend := by
  obtain ⟨c1, c2, c3⟩ := h
  have hv := (pu_ent_none hE).mp hn
  have key : ∀ k, 1 ≤ k → k ≤ E → v ≠ nI (2 * k) := fun k k1 k2 z => by
    have h3 := hv k k1 k2 z
    have := c2 k k1 k2 h3
    rw [z, pu_cnt_eq] at this
    omega
  refine ⟨fun k k1 k2 k3 => ?_, fun k k1 k2 k3 => ?_, c3⟩
  · have := c1 k k1 k2 k3
    rwa [pu_cnt_ne (key k k1 k2)] at this
  · have := c2 k k1 k2 k3
    rwa [pu_cnt_ne (key k k1 k2)] at this
theorem pu_after_full {E : Nat} {rg : Nat → Int32} {D : PD} {x : Nat → Bool} {pend : List Int32} {e : Nat} (hE : E < 2 ^ 29) (h2 : e ≤ E) (hs : (D.1 e).isSome = true) (h7 : D.2.1 e = 7) (h : pu_CI E rg D x (nI (2 * e) :: pend)) : pu_CI E rg D x pend := by
  obtain ⟨c1, c2, c3⟩ := h
  refine ⟨fun k k1 k2 k3 => ?_, fun k k1 k2 k3 => ?_, c3⟩
  · by_cases hk : k = e
    · subst hk; exact Or.inl h7
    · have := c1 k k1 k2 k3
      rwa [pu_cnt_ne (fun z => hk (pu_inj hE h2 k2 z).symm)] at this
  · have := c2 k k1 k2 k3
    rwa [pu_cnt_ne (fun z => by
      have := pu_inj hE h2 k2 z
      subst this
      rw [hs] at k3
      cases k3)] at this
/-- an entry whose count has come to 0: its words are to go -/
theorem pu_open {E : Nat} {rg : Nat → Int32} {D : PD} {x : Nat → Bool} {pend : List Int32} {e : Nat} (h1 : 1 ≤ e) (h2 : e ≤ E) (hs : (D.1 e).isSome = true) (h0 : D.2.1 e = 0) (hx : x e = false) (h : pu_CI E rg D x pend) : pu_CI E rg D (va_up x e true) (pu_ws D.1 e ++ pend) := by
  obtain ⟨c1, c2, c3⟩ := h
  have key : ∀ k, pu_refs E rg D.1 (va_up x e true) k + (pu_ws D.1 e ++ pend).count (nI (2 * k)) = pu_refs E rg D.1 x k + pend.count (nI (2 * k)) := fun k => by
    rw [List.count_append, ← pu_refs_out (k := k) h1 h2 hx]
    omega
  refine ⟨fun k k1 k2 k3 => by rw [key]; exact c1 k k1 k2 k3, fun k k1 k2 k3 => by rw [key]; exact c2 k k1 k2 k3, fun i hi => ?_⟩
  by_cases hie : i = e
  · subst hie; exact ⟨hs, h0, h1, h2⟩
  · rw [va_up_ne _ _ hie] at hi
    exact c3 i hi
/-- .. and when they have gone, it goes -/
theorem pu_close {E : Nat} {rg : Nat → Int32} {D : PD} {x : Nat → Bool} {pend : List Int32} {e : Nat} (hx : x e = false) (h : pu_CI E rg D (va_up x e true) pend) : pu_CI E rg (pu_free D e) x pend := by
  obtain ⟨c1, c2, c3⟩ := h
  obtain ⟨hs, h0, h1, h2⟩ := c3 e (va_up_self _ _ _)
  obtain ⟨o, ho⟩ := Option.isSome_iff_exists.mp hs
  have hf : pu_free D e = (va_up D.1 e none, D.2.1, D.2.2 ++ [(o.1, o.2.length + 1)]) := by
    unfold pu_free
    rw [ho]
  rw [hf]
  refine ⟨fun k k1 k2 k3 => ?_, fun k k1 k2 k3 => ?_, fun i hi => ?_⟩
  · have hk : k ≠ e := fun z => by
      subst z
      simp only [va_up_self] at k3
      cases k3
    show D.2.1 k = 7 ∨ D.2.1 k = pu_refs E rg (va_up D.1 e none) x k + _
    rw [pu_refs_gone hx]
    refine c1 k k1 k2 ?_
    simp only [va_up_ne _ _ hk] at k3
    exact k3
  · show pu_refs E rg (va_up D.1 e none) x k + _ = 0
    rw [pu_refs_gone hx]
    by_cases hk : k = e
    · subst hk
      rcases c1 k k1 k2 hs with h | h <;> omega
    · refine c2 k k1 k2 ?_
      simp only [va_up_ne _ _ hk] at k3
      exact k3
  · have hie : i ≠ e := fun z => by rw [z, hx] at hi; cases hi
    have := c3 i (by rw [va_up_ne _ _ hie]; exact hi)
    refine ⟨?_, this.2⟩
    show (va_up D.1 e none i).isSome = true
    rw [va_up_ne _ _ hie]
    exact this.1
theorem pu_drop_after {E : Nat} {rg : Nat → Int32} (hE : E < 2 ^ 29) : ∀ (f : Nat) (x : Nat → Bool) (D : PD) (v : Int32) (pend : List Int32), pu_CI E rg D x (v :: pend) → pu_pos E D ≤ f → pu_after E rg D (pu_drop E f D v) x pend := by
  intro f
  induction f with
  | zero =>
    intro x D v pend h hp
    unfold pu_drop
    cases hn : pu_ent E D.1 v with
    | none => exact ⟨pu_after_none hE hn h, fun _ => Nat.le_refl _, fun _ _ => rfl, fun _ => Or.inl rfl, Nat.le_refl _⟩
    | some e =>
      obtain ⟨h1, h2, h3, h4⟩ := (pu_ent_some hE).mp hn
      subst h3
      dsimp only
      by_cases h7 : D.2.1 e = 7
      · rw [if_pos h7]
        exact ⟨pu_after_full hE h2 h4 h7 h, fun _ => Nat.le_refl _, fun _ _ => rfl, fun _ => Or.inl rfl, Nat.le_refl _⟩
      · have hpos := (pu_after_dec hE h1 h2 h4 h h7).2.1
        have := pu_pos_dec h1 h2 h4 hpos
        omega
  | succ f ih =>
    intro x D v pend h hp
    unfold pu_drop
    cases hn : pu_ent E D.1 v with
    | none => exact ⟨pu_after_none hE hn h, fun _ => Nat.le_refl _, fun _ _ => rfl, fun _ => Or.inl rfl, Nat.le_refl _⟩
    | some e =>
      obtain ⟨h1, h2, h3, h4⟩ := (pu_ent_some hE).mp hn
      subst h3
      dsimp only
      by_cases h7 : D.2.1 e = 7
      · rw [if_pos h7]
        exact ⟨pu_after_full hE h2 h4 h7 h, fun _ => Nat.le_refl _, fun _ _ => rfl, fun _ => Or.inl rfl, Nat.le_refl _⟩
      · obtain ⟨hd, hpos, hxe⟩ := pu_after_dec hE h1 h2 h4 h h7
        have hle : ∀ i, va_up D.2.1 e (D.2.1 e - 1) i ≤ D.2.1 i := fun i => by
          by_cases hi : i = e
          · subst hi; rw [va_up_self]; omega
          · rw [va_up_ne _ _ hi]; exact Nat.le_refl _
        rw [if_neg h7]
        by_cases h8 : D.2.1 e = 1
        · rw [if_pos h8]
          rw [h8] at hd hle
          have hop := pu_open (D := (D.1, va_up D.2.1 e 0, D.2.2)) h1 h2 h4 (va_up_self _ _ _) hxe hd
          have hpd := pu_pos_dec h1 h2 h4 hpos
          obtain ⟨a1, a2, a3, a4, a5⟩ := pu_after.fold (fun D v pend => ih (va_up x e true) D v pend) (pu_ws D.1 e) (D.1, va_up D.2.1 e 0, D.2.2) pend hop (by omega)
          generalize (pu_ws D.1 e).foldl (fun D w => pu_drop E f D w) (D.1, va_up D.2.1 e 0, D.2.2) = D2 at a1 a2 a3 a4 a5 ⊢
          have hcl := pu_close hxe a1
          have hfo : ∀ i, (pu_free D2 e).1 i = if i = e then none else D2.1 i := fun i => by
            unfold pu_free
            cases ho : D2.1 e with
            | none =>
              by_cases hi : i = e
              · subst hi; simp [ho]
              · simp [hi]
            | some o =>
              by_cases hi : i = e
              · subst hi; simp [va_up_self]
              · simp [hi, va_up_ne]
          have hfc : (pu_free D2 e).2.1 = D2.2.1 := by
            unfold pu_free
            cases ho : D2.1 e <;> rfl
          have r2 : ∀ i, (pu_free D2 e).2.1 i ≤ D.2.1 i := fun i => by
            rw [hfc]
            exact Nat.le_trans (a2 i) (hle i)
          have r4 : ∀ i, (pu_free D2 e).1 i = D.1 i ∨ (pu_free D2 e).1 i = none := fun i => by
            rw [hfo]
            by_cases hi : i = e
            · right; rw [if_pos hi]
            · rw [if_neg hi]; exact a4 i
          refine ⟨hcl, r2, fun i hi => ?_, r4, pu_pos_le r2 r4⟩
          have hie : i ≠ e := fun z => by rw [z, hxe] at hi; cases hi
          rw [hfo, if_neg hie]
          exact a3 i (by rw [va_up_ne _ _ hie]; exact hi)
        · rw [if_neg h8]
          exact ⟨hd, hle, fun _ _ => rfl, fun _ => Or.inl rfl, pu_pos_le (D' := (D.1, va_up D.2.1 e (D.2.1 e - 1), D.2.2)) hle (fun _ => Or.inl rfl)⟩
