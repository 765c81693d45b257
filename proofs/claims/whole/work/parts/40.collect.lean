/-! What isn't reached goes; the counts are made anew. -/
section CO
variable {W E : Nat} {rg : Nat → Int32} {D : PD} {S : GS}
def sw (Rb : Nat → Bool) : Nat → PD → PD
  | 0, D => D
  | n + 1, D => if Rb (n + 1) = true then sw Rb n D else pu_free (sw Rb n D) (n + 1)
def swn (Rb : Nat → Bool) (ob : PB) : Nat → Nat
  | 0 => 0
  | n + 1 => swn Rb ob n + (if Rb (n + 1) = false ∧ (ob (n + 1)).isSome = true then 1 else 0)
theorem pu_free_none {e : Nat} (h : D.1 e = none) : pu_free D e = D := by
  unfold pu_free; rw [h]
theorem pu_free_ob (e k : Nat) : (pu_free D e).1 k = if k = e then none else D.1 k := by
  cases h : D.1 e with
  | none =>
    rw [pu_free_none h]
    by_cases hk : k = e
    · subst hk; rw [if_pos rfl]; exact h
    · rw [if_neg hk]
  | some q =>
    rw [pu_free_some h]
    by_cases hk : k = e
    · subst hk; rw [if_pos rfl]; exact va_up_self _ _ _
    · rw [if_neg hk]; exact va_up_ne _ _ hk
theorem pu_free_cnt (e : Nat) : (pu_free D e).2.1 = D.2.1 := by
  cases h : D.1 e with
  | none => rw [pu_free_none h]
  | some q => rw [pu_free_some h]
theorem sw_ob {Rb : Nat → Bool} : ∀ (n k : Nat), (sw Rb n D).1 k = if 1 ≤ k ∧ k ≤ n ∧ Rb k = false then none else D.1 k := by
  intro n
  induction n with
  | zero =>
    intro k
    rw [if_neg (by omega)]; rfl
  | succ n ih =>
    intro k
    unfold sw
    split
    · rename_i h
      rw [ih]
      by_cases hk : 1 ≤ k ∧ k ≤ n ∧ Rb k = false
      · rw [if_pos hk, if_pos ⟨hk.1, by omega, hk.2.2⟩]
      · rw [if_neg hk, if_neg ?_]
        rintro ⟨a, b, c⟩
        by_cases hkn : k = n + 1
        · subst hkn; rw [h] at c; cases c
        · exact hk ⟨a, by omega, c⟩
    · rename_i h
      have hf : Rb (n + 1) = false := by
        cases hb : Rb (n + 1) with
        | false => rfl
        | true => exact absurd hb h
      rw [pu_free_ob, ih]
      by_cases hkn : k = n + 1
      · subst hkn
        rw [if_pos rfl, if_pos ⟨by omega, by omega, hf⟩]
      · rw [if_neg hkn]
        by_cases hk : 1 ≤ k ∧ k ≤ n ∧ Rb k = false
        · rw [if_pos hk, if_pos ⟨hk.1, by omega, hk.2.2⟩]
        · rw [if_neg hk, if_neg (fun h2 => hk ⟨h2.1, by omega, h2.2.2⟩)]
theorem sw_cnt {Rb : Nat → Bool} : ∀ n, (sw Rb n D).2.1 = D.2.1 := by
  intro n
  induction n with
  | zero => rfl
  | succ n ih =>
    unfold sw
    split
    · exact ih
    · rw [pu_free_cnt]; exact ih
theorem sw_next {Rb : Nat → Bool} (n : Nat) : (sw Rb n D).1 (n + 1) = D.1 (n + 1) := by
  rw [sw_ob, if_neg (by omega)]
theorem sw_keep {Rb : Nat → Bool} {n : Nat} (h : Rb (n + 1) = true) : sw Rb (n + 1) D = sw Rb n D := by
  rw [sw, if_pos h]
theorem sw_dead {Rb : Nat → Bool} {n : Nat} (h : D.1 (n + 1) = none) : sw Rb (n + 1) D = sw Rb n D := by
  rw [sw]
  split
  · rfl
  · exact pu_free_none (by rw [sw_next]; exact h)
theorem sw_go {Rb : Nat → Bool} {n : Nat} (h : Rb (n + 1) = false) : sw Rb (n + 1) D = pu_free (sw Rb n D) (n + 1) := by
  rw [sw, if_neg (by rw [h]; decide)]
theorem swn_keep {Rb : Nat → Bool} {n : Nat} (h : Rb (n + 1) = true) : swn Rb D.1 (n + 1) = swn Rb D.1 n := by
  rw [swn, if_neg (by rw [h]; rintro ⟨h, -⟩; cases h)]; rfl
theorem swn_dead {Rb : Nat → Bool} {n : Nat} (h : D.1 (n + 1) = none) : swn Rb D.1 (n + 1) = swn Rb D.1 n := by
  rw [swn, if_neg (by rw [h]; rintro ⟨-, h⟩; cases h)]; rfl
theorem swn_go {Rb : Nat → Bool} {n : Nat} {q : PO} (h : Rb (n + 1) = false) (hd : D.1 (n + 1) = some q) : swn Rb D.1 (n + 1) = swn Rb D.1 n + 1 := by
  rw [swn, if_pos ⟨h, by rw [hd]; rfl⟩]
theorem pg_sw {Rb : Nat → Bool} (hi : pg W E D) : ∀ n, pg W E (sw Rb n D) := by
  intro n
  induction n with
  | zero => exact hi
  | succ n ih =>
    unfold sw
    split
    · exact ih
    · cases h : (sw Rb n D).1 (n + 1) with
      | none => rw [pu_free_none h]; exact ih
      | some q => exact ih.free h
/-- counts that come to a list of references -/
def adds (E : Nat) (D : PD) (vs : List Int32) : PD := vs.foldl (pu_add E) D
theorem adds_ob (vs : List Int32) : (adds E D vs).1 = D.1 ∧ (adds E D vs).2.2 = D.2.2 := by
  induction vs generalizing D with
  | nil => exact ⟨rfl, rfl⟩
  | cons v vs ih =>
    obtain ⟨a, b⟩ := ih (D := pu_add E D v)
    exact ⟨a.trans (pu_add_ob v), b.trans (pu_add_fr v)⟩
theorem adds_7 (vs : List Int32) (h : ∀ e, D.2.1 e ≤ 7) : ∀ e, (adds E D vs).2.1 e ≤ 7 := by
  induction vs generalizing D with
  | nil => exact h
  | cons v vs ih => exact ih (D := pu_add E D v) (pu_add_7 v h)
theorem adds_pg (vs : List Int32) (h : pg W E D) : pg W E (adds E D vs) := by
  refine ⟨h.1, ?_⟩
  rw [(adds_ob vs).1, (adds_ob vs).2]
  exact h.2
theorem adds_snoc (vs : List Int32) (v : Int32) : adds E D (vs ++ [v]) = pu_add E (adds E D vs) v := by
  unfold adds
  rw [List.foldl_append]; rfl
theorem adds_cnt (hE : E < 2 ^ 29) {e : Nat} (e1 : 1 ≤ e) (e2 : e ≤ E) (vs : List Int32) (hs : (D.1 e).isSome = true) (h7 : D.2.1 e ≤ 7) : (adds E D vs).2.1 e = min 7 (D.2.1 e + vs.count (nI (2 * e))) := by
  induction vs generalizing D with
  | nil =>
    show D.2.1 e = min 7 (D.2.1 e + 0)
    omega
  | cons v vs ih =>
    show (adds E (pu_add E D v) vs).2.1 e = _
    have hk : (pu_add E D v).2.1 e = min 7 (D.2.1 e + (if v = nI (2 * e) then 1 else 0)) := by
      cases hn : pu_ent E D.1 v with
      | none =>
        rw [pu_add_none hn, if_neg (fun z => by rw [(pu_ent_none hE).mp hn e e1 e2 z] at hs; cases hs)]
        omega
      | some k =>
        obtain ⟨k1, k2, k3, k4⟩ := (pu_ent_some hE).mp hn
        subst k3
        rw [pu_add_some hn]
        by_cases hke : e = k
        · subst hke
          rw [if_pos (rfl : nI (2 * e) = nI (2 * e))]
          split
          · show va_up D.2.1 e (D.2.1 e + 1) e = _
            rw [va_up_self]; omega
          · omega
        · rw [if_neg (fun z => hke (pu_inj hE k2 e2 z).symm)]
          split
          · show va_up D.2.1 k (D.2.1 k + 1) e = _
            rw [va_up_ne _ _ hke]; omega
          · omega
    rw [ih (D := pu_add E D v) (by rw [pu_add_ob]; exact hs) (by rw [hk]; omega), hk, cnt_cons]
    omega
/-- the words of the objects, entry after entry -/
def wsl (ob : PB) : Nat → List Int32
  | 0 => []
  | n + 1 => wsl ob n ++ pu_ws ob (n + 1)
theorem wsl_cnt (ob : PB) (a : Int32) : ∀ n, (wsl ob n).count a = pu_sum (fun i => (pu_ws ob i).count a) n := by
  intro n
  induction n with
  | zero => rfl
  | succ n ih =>
    show (wsl ob n ++ pu_ws ob (n + 1)).count a = pu_sum _ n + (pu_ws ob (n + 1)).count a
    rw [List.count_append, ih]
theorem lsum_perm {f : Nat → Nat} {l l' : List Nat} (h : l.Perm l') : (l.map f).sum = (l'.map f).sum := by
  induction h with
  | nil => rfl
  | cons a _ ih => rw [List.map_cons, List.map_cons, List.sum_cons, List.sum_cons, ih]
  | swap a b l =>
    rw [List.map_cons, List.map_cons, List.map_cons, List.map_cons, List.sum_cons, List.sum_cons, List.sum_cons, List.sum_cons]
    omega
  | trans _ _ h1 h2 => exact h1.trans h2
theorem lsum_all {f : Nat → Nat} : ∀ (n : Nat) (L : List Nat), L.Nodup → (∀ e ∈ L, 1 ≤ e ∧ e ≤ n) → (∀ i, 1 ≤ i → i ≤ n → ¬ i ∈ L → f i = 0) → (L.map f).sum = pu_sum f n := by
  intro n
  induction n with
  | zero =>
    intro L _ h _
    cases L with
    | nil => rfl
    | cons a L => have := h a List.mem_cons_self; omega
  | succ n ih =>
    intro L hn h h0
    show _ = pu_sum f n + f (n + 1)
    by_cases hm : n + 1 ∈ L
    · rw [lsum_perm (List.perm_cons_erase hm), List.map_cons, List.sum_cons, ih (L.erase (n + 1)) (hn.erase _) (fun e he => ?_) (fun i i1 i2 hi => ?_)]
      · omega
      · have := (List.Nodup.mem_erase_iff hn).mp he
        have h2 := h e this.2
        have := this.1
        omega
      · exact h0 i i1 (by omega) (fun h2 => hi ((List.Nodup.mem_erase_iff hn).mpr ⟨by omega, h2⟩))
    · rw [ih L hn (fun e he => ?_) (fun i i1 i2 hi => h0 i i1 (by omega) hi), h0 (n + 1) (by omega) (by omega) hm]
      · omega
      · have := h e he
        have : e ≠ n + 1 := fun z => hm (by rw [← z]; exact he)
        omega
/-- the state when all is gone that isn't reached, and how many went -/
def co_to (E : Nat) (rg : Nat → Int32) (also : Int32) (D D' : PD) (g : Nat) : Prop := ∃ Rb : Nat → Bool, (∀ e, Rb e = true ↔ re_set E rg D.1 also e) ∧ g = swn Rb D.1 E ∧ D' = ((sw Rb E D).1, (fun e => min 7 (pu_refs E rg (sw Rb E D).1 (fun _ => false) e)), (sw Rb E D).2.2)
theorem co_to.ex (E : Nat) (rg : Nat → Int32) (also : Int32) (D : PD) : ∃ (D' : PD) (g : Nat), co_to E rg also D D' g :=
  ⟨_, _, fun e => @decide (re_set E rg D.1 also e) (Classical.propDecidable _), fun e => @decide_eq_true_iff _ (Classical.propDecidable _), rfl, rfl⟩
theorem nodang (hi : pinv W E rg D) {e : Nat} (h1 : 1 ≤ e) (h2 : e ≤ E) (hd : D.1 e = none) : (∀ r, r < 8 → rg r ≠ nI (2 * e)) ∧ ∀ (i : Nat) (q : PO), D.1 i = some q → ¬ nI (2 * e) ∈ q.2 := by
  have h := hi.2.2.2.1.2.1 e h1 h2 (by rw [hd]; rfl)
  unfold pu_refs at h
  have ha : ((List.range 8).map rg).count (nI (2 * e)) = 0 := by omega
  refine ⟨fun r hr hz => ?_, fun i q hq hm => ?_⟩
  · have := List.count_eq_zero.mp ha
    exact this (List.mem_map.mpr ⟨r, List.mem_range.mpr hr, hz⟩)
  · have hb : pu_sum (fun i => if (fun _ => false : Nat → Bool) i = true then 0 else (pu_ws D.1 i).count (nI (2 * e))) E = 0 := by omega
    have hg := hi.2.1.1 i q hq
    have := pu_sum_zero hb i hg.1 hg.2.1
    simp only [Bool.false_eq_true, if_false] at this
    rw [ws_some hq] at this
    exact List.count_eq_zero.mp this hm
theorem pv_val (hi : pinv W E rg D) {v : Int32} (hv : pv E v) (hn : ∀ e, 1 ≤ e → e ≤ E → D.1 e = none → v ≠ nI (2 * e)) : pval E D v := by
  rcases hv with h | h | ⟨e, a, b, c⟩
  · exact Or.inl h
  · exact Or.inr (Or.inl h)
  · cases hd : D.1 e with
    | none => exact absurd c (hn e a b hd)
    | some q => exact Or.inr (Or.inr ⟨e, q, a, b, c, hd⟩)
theorem pinv.reg (hi : pinv W E rg D) {r : Nat} (hr : r < 8) : pval E D (rg r) := pv_val hi (hi.2.2.2.2.1 r hr) (fun e a b hd => (nodang hi a b hd).1 r hr)
theorem pinv.wrd (hi : pinv W E rg D) {i : Nat} {q : PO} (hq : D.1 i = some q) {w : Int32} (hw : w ∈ q.2) : pval E D w := pv_val hi (hi.2.2.2.2.2 i q hq w hw) (fun e a b hd z => (nodang hi a b hd).2 i q hq (by rw [← z]; exact hw))
theorem co_to.live {also : Int32} {D' : PD} {g e : Nat} (h : co_to E rg also D D' g) (hr : re_set E rg D.1 also e) : D'.1 e = D.1 e := by
  obtain ⟨Rb, hRb, -, rfl⟩ := h
  show (sw Rb E D).1 e = D.1 e
  rw [sw_ob, if_neg ?_]
  rintro ⟨-, -, h⟩
  rw [(hRb e).mpr hr] at h; cases h
theorem co_to.inv {also : Int32} {D' : PD} {g : Nat} (hi : pinv W E rg D) (h : co_to E rg also D D' g) : pinv W E rg D' := by
  have hlive := fun e => h.live (e := e)
  obtain ⟨Rb, hRb, -, rfl⟩ := h
  have hb := hi.1
  have hE : E < 2 ^ 29 := by omega
  have hsub : ∀ (e : Nat) (q : PO), (sw Rb E D).1 e = some q → D.1 e = some q ∧ re_set E rg D.1 also e := fun e q h => by
    rw [sw_ob] at h
    split at h
    · cases h
    · rename_i hn
      have hg := hi.2.1.1 e q h
      refine ⟨h, (hRb e).mp ?_⟩
      cases hr : Rb e with
      | true => rfl
      | false => exact absurd ⟨hg.1, hg.2.1, hr⟩ hn
  refine ⟨hi.1, (pg_sw hi.pg E).2, fun e => Nat.min_le_left _ _, ⟨fun e e1 e2 e3 => ?_, fun e e1 e2 e3 => ?_, fun i h => (by cases h)⟩, hi.2.2.2.2.1, fun e q hq => hi.2.2.2.2.2 e q (hsub e q hq).1⟩
  · show min 7 (pu_refs E rg (sw Rb E D).1 (fun _ => false) e) = 7 ∨ min 7 (pu_refs E rg (sw Rb E D).1 (fun _ => false) e) = pu_refs E rg (sw Rb E D).1 (fun _ => false) e + 0
    omega
  · have e3' : (sw Rb E D).1 e = none := by
      cases h : (sw Rb E D).1 e with
      | none => rfl
      | some q => rw [show ((sw Rb E D).1, (fun e => min 7 (pu_refs E rg (sw Rb E D).1 (fun _ => false) e)), (sw Rb E D).2.2).1 e = (sw Rb E D).1 e from rfl, h] at e3; cases e3
    have hno : ¬ re_set E rg D.1 also e := fun hr => by
      have := hlive e hr
      rw [show (((sw Rb E D).1, (fun e => min 7 (pu_refs E rg (sw Rb E D).1 (fun _ => false) e)), (sw Rb E D).2.2) : PD).1 e = (sw Rb E D).1 e from rfl, e3'] at this
      obtain ⟨-, -, q, hq⟩ := hr.live hE
      rw [hq] at this; cases this
    have key : ∀ v, pval E D v → v = nI (2 * e) → pu_ent E D.1 v = some e := fun v hv hz => by
      rcases hv with h | h | ⟨k, q, k1, k2, k3, k4⟩
      · rw [hz] at h; exact absurd h (nI_ne0 (by omega) (by omega))
      · rw [hz] at h; exact absurd (nu_even (by omega)) h
      · have : k = e := pu_inj hE k2 e2 (by rw [← k3, hz])
        subst this
        rw [k3]; exact ent_of hb.2.2.2 k1 k2 k4
    show pu_refs E rg (sw Rb E D).1 (fun _ => false) e + 0 = 0
    unfold pu_refs
    have h1 : ((List.range 8).map rg).count (nI (2 * e)) = 0 := by
      refine List.count_eq_zero.mpr (fun hm => ?_)
      obtain ⟨r, hr, hz⟩ := List.mem_map.mp hm
      have hr8 := List.mem_range.mp hr
      exact hno (re_set.root (Or.inl ⟨r, hr8, key _ (hi.reg hr8) hz⟩))
    have h2 : pu_sum (fun i => if (fun _ => false : Nat → Bool) i = true then 0 else (pu_ws (sw Rb E D).1 i).count (nI (2 * e))) E = pu_sum (fun _ => 0) E := pu_sum_eq (fun i _ _ => by
      simp only [Bool.false_eq_true, if_false]
      cases hd : (sw Rb E D).1 i with
      | none => unfold pu_ws; rw [hd]; rfl
      | some q =>
        obtain ⟨d1, d2⟩ := hsub i q hd
        rw [ws_some hd]
        refine List.count_eq_zero.mpr (fun hm => ?_)
        exact hno (d2.next (by rw [ws_some d1]; exact hm) (key _ (hi.wrd d1 hm) rfl)))
    rw [h1, h2, pu_sum_const, Nat.zero_mul]
/-- the class counts anew -/
theorem sx_countAnew {R : Nat → Prop} {L : List Nat} {post : GS → Prop} (hi : pg W E D) (hx : xr E rg D S) (hf : fx E R L S) (hL : ∀ e, e ∈ L ↔ (D.1 e).isSome = true) (hp : ∀ S' : GS, xr E rg (D.1, (fun e => min 7 (pu_refs E rg D.1 (fun _ => false) e)), D.2.2) S' → post S') : wp_X_countAnew W E [] S post := by
  have hb := hi.1
  have hl := hf.len
  have hi0 : pg W E (D.1, (fun _ => 0), D.2.2) := hi
  intro V hV
  have hLs : ∀ e ∈ L, ∃ q, D.1 e = some q := fun e he => Option.isSome_iff_exists.mp ((hL e).mp he)
  -- the words of what is reached
  have fin : ∀ (m i : Nat) (S : GS), i + m = L.length → S 100 1 = nI L.length → (∀ i e, L[i]? = some e → S 5 i = nI e) → xr E rg (adds E (D.1, (fun _ => 0), D.2.2) ((List.range 8).map rg ++ ((L.take i).map (pu_ws D.1)).flatten)) S → V 34 S [nI i] := by
    intro m
    induction m with
    | zero =>
      intro i S hm h1 h5 hx
      refine hV 34 S _ ⟨fun _ => hp S ?_, fun h => absurd (by rw [h1]; exact nI_le (by omega) (by omega)) h⟩
      rw [List.take_of_length_le (by omega)] at hx
      have hob := adds_ob (E := E) (D := (D.1, (fun _ => 0), D.2.2)) ((List.range 8).map rg ++ (L.map (pu_ws D.1)).flatten)
      have := hx.counts (c := fun e => min 7 (pu_refs E rg D.1 (fun _ => false) e)) (fun e q hq => ?_)
      · rw [hob.1, hob.2] at this; exact this
      · rw [hob.1] at hq
        have hg := hi.2.1 e q hq
        rw [adds_cnt (D := (D.1, (fun _ => 0), D.2.2)) (by omega) hg.1 hg.2.1 _ (show (D.1 e).isSome = true by rw [show D.1 e = some q from hq]; rfl) (Nat.zero_le _)]
        show min 7 (0 + _) = _
        rw [List.count_append]
        unfold pu_refs
        have h6 : ((L.map (pu_ws D.1)).flatten).count (nI (2 * e)) = pu_sum (fun i => (pu_ws D.1 i).count (nI (2 * e))) E := by
          rw [List.count_flatten, List.map_map, ← lsum_all E L hf.2.2.2.1 (fun e he => (hf.2.2.2.2 e he).2) (fun i i1 i2 hi3 => ?_)]
          · rfl
          · have : D.1 i = none := by
              cases hd : D.1 i with
              | none => rfl
              | some q => exact absurd ((hL i).mpr (by rw [hd]; rfl)) hi3
            unfold pu_ws; rw [this]; rfl
        rw [h6]
        simp only [Bool.false_eq_true, if_false]
        omega
    | succ m ih =>
      intro i S hm h1 h5 hx
      obtain ⟨e, he⟩ := ge_some (l := L) (i := i) (by omega)
      obtain ⟨q, hd⟩ := hLs e (List.mem_of_getElem? he)
      have hg := hi.2.1 e q hd
      have hws := ws_some hd
      have ht : L.take (i + 1) = L.take i ++ [e] := by rw [List.take_succ, he]; rfl
      have inner : ∀ (n k : Nat) (S : GS), k + n = q.2.length → S 100 1 = nI L.length → (∀ i e, L[i]? = some e → S 5 i = nI e) → xr E rg (adds E (D.1, (fun _ => 0), D.2.2) ((List.range 8).map rg ++ ((L.take i).map (pu_ws D.1)).flatten ++ q.2.take k)) S → V 72 S [nI i, nI e, nI (q.1 + (q.2.length + 1)), nI (q.1 + 1 + k)] := by
        intro n
        induction n with
        | zero =>
          intro k S hk h1 h5 hx
          refine hV 72 S _ ⟨fun _ y1 e1 => ?_, fun h => absurd (nI_le (by omega) (by omega)) h⟩
          rw [nI_1] at e1; subst e1
          refine ih (i + 1) S (by omega) h1 h5 ?_
          rw [ht, List.map_append, List.flatten_append]
          rw [show q.2.take k = q.2 from List.take_of_length_le (by omega)] at hx
          rw [← List.append_assoc]
          show xr E rg (adds E _ (_ ++ (pu_ws D.1 e ++ []))) S
          rw [List.append_nil, hws]; exact hx
        | succ n ihn =>
          intro k S hk h1 h5 hx
          obtain ⟨w, hwk⟩ := ge_some (l := q.2) (i := k) (by omega)
          have hob := adds_ob (E := E) (D := (D.1, (fun _ => 0), D.2.2)) ((List.range 8).map rg ++ ((L.take i).map (pu_ws D.1)).flatten ++ q.2.take k)
          have hx0 := hx.2.2.1 e q (by rw [hob.1]; exact hd)
          refine hV 72 S _ ⟨fun h => absurd h (nI_ge (by omega) (by omega)), fun _ => ⟨vp_in_nI (by omega) (by omega), ?_⟩⟩
          rw [nI_clamp (by omega), hx0.2.2.1 k w hwk]
          refine sx_add (adds_pg _ hi0) (adds_7 _ (fun _ => Nat.zero_le _)) hx (fun S' hx' hfr y4 e4 => ?_)
          rw [nI_1] at e4; subst e4
          refine ihn (k + 1) S' (by omega) (by rw [hfr 100 (by decide)]; exact h1) (by rw [hfr 5 (by decide)]; exact h5) ?_
          rw [List.take_succ, hwk]
          show xr E rg (adds E _ (_ ++ (q.2.take k ++ [w]))) S'
          rw [← List.append_assoc, adds_snoc]
          exact hx'
      have hob := adds_ob (E := E) (D := (D.1, (fun _ => 0), D.2.2)) ((List.range 8).map rg ++ ((L.take i).map (pu_ws D.1)).flatten)
      have hd' : (adds E (D.1, (fun _ => 0), D.2.2) ((List.range 8).map rg ++ ((L.take i).map (pu_ws D.1)).flatten)).1 e = some q := by rw [hob.1]; exact hd
      have hx0 := hx.2.2.1 e q hd'
      refine hV 34 S _ ⟨fun h => absurd h (by rw [h1]; exact nI_ge (by omega) (by omega)), fun _ => ⟨vp_in_nI (by omega) (by omega), fun y1 e1 => ?_⟩⟩
      rw [nI_clamp (by omega), h5 i e he] at e1
      subst e1
      refine ⟨vp_in_nI (by omega) (by omega), sx_wordsOf (adds_pg _ hi0) hx hd' (fun y4 e4 => ⟨vp_in_nI (by omega) (by omega), fun y5 e5 => ?_⟩)⟩
      rw [nI_clamp (by omega), hx0.1] at e4 e5
      rw [nI_add] at e4
      rw [nI_1] at e5
      subst e4; subst e5
      refine inner q.2.length 0 S (Nat.zero_add _) h1 h5 ?_
      rw [List.take_zero, List.append_nil]; exact hx
  have regs : ∀ (m r : Nat) (S : GS), r + m = 8 → S 100 1 = nI L.length → (∀ i e, L[i]? = some e → S 5 i = nI e) → xr E rg (adds E (D.1, (fun _ => 0), D.2.2) ((List.range r).map rg)) S → V 10 S [nI r] := by
    intro m
    induction m with
    | zero =>
      intro r S hm h1 h5 hx
      have : r = 8 := by omega
      subst this
      refine hV 10 S _ ⟨fun _ y1 e1 => ?_, fun h => absurd (nI_le (a := 8) (by omega) (by omega)) h⟩
      subst e1
      refine fin L.length 0 S (Nat.zero_add _) h1 h5 ?_
      show xr E rg (adds E _ (_ ++ [])) S
      rw [List.append_nil]; exact hx
    | succ m ih =>
      intro r S hm h1 h5 hx
      refine hV 10 S _ ⟨fun h => absurd h (nI_ge (a := r) (b := 8) (by omega) (by decide)), fun _ => ⟨vp_in_nI (by omega) (by decide), ?_⟩⟩
      rw [nI_clamp (by omega), hx.1 r (by omega)]
      refine sx_add (adds_pg _ hi0) (adds_7 _ (fun _ => Nat.zero_le _)) hx (fun S' hx' hfr y4 e4 => ?_)
      rw [nI_1] at e4; subst e4
      refine ih (r + 1) S' (by omega) (by rw [hfr 100 (by decide)]; exact h1) (by rw [hfr 5 (by decide)]; exact h5) ?_
      rw [List.range_succ, List.map_append]
      show xr E rg (adds E _ (_ ++ [rg r])) S'
      rw [adds_snoc]; exact hx'
  refine hV 0 S [] ⟨by omega, fun S1 e1 y2 e2 => ?_⟩
  subst e1; subst e2
  refine regs 8 0 _ (by omega) hf.2.1 hf.2.2.1 ?_
  obtain ⟨x1, x2, x3, x4, x5⟩ := hx
  refine ⟨x1, x2, fun e q hq => ?_, x4, x5⟩
  obtain ⟨a, b, c, d⟩ := x3 e q hq
  have hg := hi.2.1 e q hq
  refine ⟨a, b, c, ?_⟩
  show (if e < E + 1 then (0 : Int32) else S 2 e) = nI 0
  rw [if_pos (by omega)]; rfl
theorem sx_takeUnreached {also : Int32} {D' : PD} {g : Nat} {post : Int32 → GS → Prop} (hi : pinv W E rg D) (hx : xr E rg D S) (h : co_to E rg also D D' g) (hp : ∀ S' : GS, xr E rg D' S' → post (nI g) S') : wp_X_takeUnreached W E [also] S post := by
  have hb := hi.1
  have hlive := fun e => h.live (e := e)
  obtain ⟨Rb, hRb, rfl, rfl⟩ := h
  intro V hV
  refine hV 0 S _ (sx_findReached hi.pg hx (fun S1 L hx1 hf1 hL y3 e3 y4 e4 => ?_))
  subst e3; subst e4
  have loop : ∀ (m i : Nat) (S : GS), i + m = E → xr E rg (sw Rb i D) S → fx E (re_set E rg D.1 also) L S → V 9 S [also, nI (swn Rb D.1 i), nI (i + 1)] := by
    intro m
    induction m with
    | zero =>
      intro i S hm hx hf
      have : i = E := by omega
      subst this
      refine hV 9 S _ ⟨fun _ => ?_, fun h => absurd (Int32.le_refl _) h⟩
      refine sx_countAnew (pg_sw hi.pg i) hx hf (fun e => ?_) (fun S' hS' => hp S' hS')
      rw [hL e]
      constructor
      · intro hr
        have h1 := hlive e hr
        have h1' : (sw Rb i D).1 e = D.1 e := h1
        obtain ⟨-, -, q, hq⟩ := hr.live (by omega)
        rw [h1', hq]; rfl
      · intro hs
        obtain ⟨q, hq⟩ := Option.isSome_iff_exists.mp hs
        rw [sw_ob] at hq
        split at hq
        · cases hq
        · rename_i hn
          have hg := hi.2.1.1 e q hq
          refine (hRb e).mp ?_
          cases hr : Rb e with
          | true => rfl
          | false => exact absurd ⟨hg.1, hg.2.1, hr⟩ hn
    | succ m ih =>
      intro i S hm hx hf
      refine hV 9 S _ ⟨fun h => absurd h (nI_ge (by omega) (by omega)), fun _ => ?_⟩
      refine sx_used (pg_sw hi.pg i).adr hx hb.2.2.2 (by omega) (by omega) (fun hd => ⟨fun _ y5 e5 => ?_, fun h => zero_ne h⟩) (fun q hd => ⟨fun h => one_ne h, fun _ => ⟨vp_in_nI (by omega) (by omega), ?_⟩⟩)
      · rw [nI_1] at e5; subst e5
        rw [sw_next] at hd
        have := ih (i + 1) S (by omega) (by rw [sw_dead hd]; exact hx) hf
        rw [swn_dead hd] at this
        exact this
      · have hd' := hd
        rw [sw_next] at hd'
        rw [nI_clamp (by omega)]
        refine ⟨fun h4 y6 e6 => ?_, fun h4 => ?_⟩
        · rw [nI_1] at e6; subst e6
          have hr : Rb (i + 1) = true := (hRb (i + 1)).mpr ((hL (i + 1)).mp (Classical.byContradiction (fun hn => h4 ((hf.1 (i + 1) (by omega) (by omega)).mpr hn))))
          have := ih (i + 1) S (by omega) (by rw [sw_keep hr]; exact hx) hf
          rw [swn_keep hr] at this
          exact this
        · have hnr : Rb (i + 1) = false := by
            cases hr : Rb (i + 1) with
            | false => rfl
            | true => exact absurd ((hL (i + 1)).mpr ((hRb (i + 1)).mp hr)) ((hf.1 (i + 1) (by omega) (by omega)).mp h4)
          refine sx_freeEntry (pg_sw hi.pg i) hx hd (fun S7 hx7 hfr h71 y9 e9 y10 e10 => ?_)
          rw [nI_1] at e9 e10; subst e9; subst e10
          have := ih (i + 1) S7 (by omega) (by rw [sw_go hnr]; exact hx7) ⟨by rw [hfr 4 (by omega)]; exact hf.1, by rw [h71]; exact hf.2.1, by rw [hfr 5 (by omega)]; exact hf.2.2⟩
          rw [swn_go hnr hd'] at this
          exact this
  exact loop E 0 S1 (Nat.zero_add _) hx1 hf1
theorem sm_addk {z : Nat} {t : Int32} {v : Int32} {post : GS → Prop} (hi : pg W E D) (h7 : ∀ e, D.2.1 e ≤ 7) (hm : mk W E z t rg D S) (hv : pv E v) (hp : ∀ S' : GS, mk W E z t rg (pu_add E D v) S' → post S') : wp_M_comes [v] S post :=
  sm_add hi h7 hm.1 hv (fun S' h1 hf => hp S' (mk.ofr (D := D) (by rw [pu_add_fr]) h1 (by rw [hf 100 (by decide)]; exact hm.2)))
/-- the reference collects -/
theorem sm_gather {z : Nat} {t : Int32} {also : Int32} {D' : PD} {g : Nat} {post : Int32 → GS → Prop} (hi : pinv W E rg D) (hm : mk W E z t rg D S) (hv : pval E D also) (h : co_to E rg also D D' g) (hp : ∀ S' : GS, mk W E z t rg D' S' → post (nI g) S') : wp_M_gather [also] S post := by
  have hb := hi.1
  have hE : E < 2 ^ 29 := by omega
  obtain ⟨Rb, hRb, rfl, rfl⟩ := h
  intro V hV
  have hsub : ∀ (e : Nat) (q : PO), (sw Rb E D).1 e = some q → D.1 e = some q := fun e q h => by
    rw [sw_ob] at h
    split at h
    · cases h
    · exact h
  have hi0 : pg W E ((sw Rb E D).1, (fun _ => 0), (sw Rb E D).2.2) := pg_sw hi.pg E
  -- the words are counted
  have cw : ∀ (v2 : Int32) (m i : Nat) (S : GS), i + m = E → mk W E z t rg (adds E ((sw Rb E D).1, (fun _ => 0), (sw Rb E D).2.2) ((List.range 8).map rg ++ wsl (sw Rb E D).1 i)) S → V 230 S [also, v2, nI (swn Rb D.1 E), nI (i + 1)] := by
    intro v2 m
    induction m with
    | zero =>
      intro i S hm1 hm
      have : i = E := by omega
      subst this
      refine hV 230 S _ ⟨fun _ => hp S ?_, fun h => absurd (by rw [hm.1.1.2]; exact nI_lt (by omega) (by omega)) h⟩
      have hob := adds_ob (E := i) (D := ((sw Rb i D).1, (fun _ => 0), (sw Rb i D).2.2)) ((List.range 8).map rg ++ wsl (sw Rb i D).1 i)
      have := hm.1.counts (c := fun e => min 7 (pu_refs i rg (sw Rb i D).1 (fun _ => false) e)) (fun e q hq => ?_)
      · rw [hob.1, hob.2] at this
        exact ⟨this, hm.2⟩
      · rw [hob.1] at hq
        have hg := (pg_sw hi.pg i (Rb := Rb)).2.1 e q hq
        rw [adds_cnt (D := ((sw Rb i D).1, (fun _ => 0), (sw Rb i D).2.2)) (by omega) hg.1 hg.2.1 _ (show ((sw Rb i D).1 e).isSome = true by rw [show (sw Rb i D).1 e = some q from hq]; rfl) (Nat.zero_le _)]
        show min 7 (0 + _) = _
        rw [List.count_append, wsl_cnt]
        unfold pu_refs
        simp only [Bool.false_eq_true, if_false]
        omega
    | succ m ih =>
      intro i S hm1 hm
      have hob := adds_ob (E := E) (D := ((sw Rb E D).1, (fun _ => 0), (sw Rb E D).2.2)) ((List.range 8).map rg ++ wsl (sw Rb E D).1 i)
      refine hV 230 S _ ⟨fun h => absurd h (by rw [hm.1.1.2]; exact nI_nlt (by omega) (by omega)), fun _ y1 e1 => ?_⟩
      subst e1
      cases hd : (sw Rb E D).1 (i + 1) with
      | none =>
        refine hV 242 S _ ⟨vp_in_nI (by omega) (by decide), ?_⟩
        rw [nI_clamp (by omega)]
        refine hm.1.live (by omega) (by omega) (fun _ y1 e1 => ?_) (fun q hq => ?_)
        · rw [nI_1] at e1; subst e1
          refine ih (i + 1) S (by omega) ?_
          have : wsl (sw Rb E D).1 (i + 1) = wsl (sw Rb E D).1 i := by
            show wsl (sw Rb E D).1 i ++ pu_ws (sw Rb E D).1 (i + 1) = _
            unfold pu_ws
            rw [hd]
            show _ ++ [] = _
            rw [List.append_nil]
          rw [this]; exact hm
        · rw [hob.1] at hq
          have hq' : (sw Rb E D).1 (i + 1) = some q := hq
          rw [hd] at hq'; cases hq'
      | some q =>
        have hg := (pg_sw hi.pg E (Rb := Rb)).2.1 (i + 1) q hd
        have hws := ws_some hd
        have inner : ∀ (n k : Nat) (S : GS), k + n = q.2.length → mk W E z t rg (adds E ((sw Rb E D).1, (fun _ => 0), (sw Rb E D).2.2) ((List.range 8).map rg ++ wsl (sw Rb E D).1 i ++ q.2.take k)) S → V 242 S [also, v2, nI (swn Rb D.1 E), nI (i + 1), nI k] := by
          intro n
          induction n with
          | zero =>
            intro k S hk hm
            have hob := adds_ob (E := E) (D := ((sw Rb E D).1, (fun _ => 0), (sw Rb E D).2.2)) ((List.range 8).map rg ++ wsl (sw Rb E D).1 i ++ q.2.take k)
            refine hV 242 S _ ⟨vp_in_nI (by omega) (by decide), ?_⟩
            have hmq := hm.1.2.2.2.1 (i + 1) q (by rw [hob.1]; exact hd)
            rw [nI_clamp (by omega), hmq.1, hmq.2.2.1]
            refine ⟨fun h => one_ne h, fun _ => ⟨vp_in_nI (by omega) (by decide), fun _ y1 e1 => ?_, fun h => absurd (nI_lt (by omega) (by omega)) h⟩⟩
            rw [nI_1] at e1; subst e1
            refine ih (i + 1) S (by omega) ?_
            rw [List.take_of_length_le (by omega), ← hws, List.append_assoc] at hm
            exact hm
          | succ n ihn =>
            intro k S hk hm
            have hob := adds_ob (E := E) (D := ((sw Rb E D).1, (fun _ => 0), (sw Rb E D).2.2)) ((List.range 8).map rg ++ wsl (sw Rb E D).1 i ++ q.2.take k)
            obtain ⟨w, hwk⟩ := ge_some (l := q.2) (i := k) (by omega)
            refine hV 242 S _ ⟨vp_in_nI (by omega) (by decide), ?_⟩
            have hmq := hm.1.2.2.2.1 (i + 1) q (by rw [hob.1]; exact hd)
            rw [nI_clamp (by omega), hmq.1, hmq.2.2.1, hmq.2.1, nI_1 q.1, nI_add, nI_clamp (by omega), hmq.2.2.2.1 k w hwk]
            refine ⟨fun h => one_ne h, fun _ => ⟨vp_in_nI (by omega) (by decide), fun h => absurd h (nI_nlt (by omega) (by omega)), fun _ => ⟨vp_in_nI (by omega) (by decide), vp_in_nI (by omega) (by decide), ?_⟩⟩⟩
            refine sm_addk (adds_pg _ hi0) (adds_7 _ (fun _ => Nat.zero_le _)) hm (hi.2.2.2.2.2 (i + 1) q (hsub _ _ hd) w (List.mem_of_getElem? hwk)) (fun S' hm' y5 e5 => ?_)
            rw [nI_1] at e5; subst e5
            refine ihn (k + 1) S' (by omega) ?_
            rw [List.take_succ, hwk]
            show mk W E z t rg (adds E _ (_ ++ (q.2.take k ++ [w]))) S'
            rw [← List.append_assoc, adds_snoc]
            exact hm'
        refine inner q.2.length 0 S (Nat.zero_add _) ?_
        rw [List.take_zero, List.append_nil]; exact hm
  have cr : ∀ (v2 : Int32) (m r : Nat) (S : GS), r + m = 8 → mk W E z t rg (adds E ((sw Rb E D).1, (fun _ => 0), (sw Rb E D).2.2) ((List.range r).map rg)) S → V 203 S [also, v2, nI (swn Rb D.1 E), nI r] := by
    intro v2 m
    induction m with
    | zero =>
      intro r S hm1 hm
      have : r = 8 := by omega
      subst this
      refine hV 203 S _ ⟨fun _ y1 e1 => ?_, fun h => absurd (nI_le (a := 8) (by omega) (by omega)) h⟩
      subst e1
      refine cw v2 E 0 S (Nat.zero_add _) ?_
      show mk W E z t rg (adds E _ (_ ++ [])) S
      rw [List.append_nil]; exact hm
    | succ m ih =>
      intro r S hm1 hm
      refine hV 203 S _ ⟨fun h => absurd h (nI_ge (a := r) (b := 8) (by omega) (by decide)), fun _ => ⟨vp_in_nI (by omega) (by decide), ?_⟩⟩
      rw [nI_clamp (by omega), hm.1.2.1 r (by omega)]
      refine sm_addk (adds_pg _ hi0) (adds_7 _ (fun _ => Nat.zero_le _)) hm (hi.2.2.2.2.1 r (by omega)) (fun S' hm' y4 e4 => ?_)
      rw [nI_1] at e4; subst e4
      refine ih (r + 1) S' (by omega) ?_
      rw [List.range_succ, List.map_append]
      show mk W E z t rg (adds E _ (_ ++ [rg r])) S'
      rw [adds_snoc]; exact hm'
  -- what isn't marked goes
  have sweep : ∀ (v2 : Int32) (m i : Nat) (S : GS), i + m = E → (∃ c : Nat → Nat, (∀ e, 1 ≤ e → e ≤ i → c e = 0) ∧ mk W E z t rg ((sw Rb i D).1, c, (sw Rb i D).2.2) S) → (∀ e, 1 ≤ e → e ≤ E → (S 11 e = 0 ↔ Rb e = false)) → V 148 S [also, v2, nI (swn Rb D.1 i), nI (i + 1)] := by
    intro v2 m
    induction m with
    | zero =>
      intro i S hm1 hc hma
      have : i = E := by omega
      subst this
      obtain ⟨c, hc0, hm⟩ := hc
      refine hV 148 S _ ⟨fun _ y1 e1 => ?_, fun h => absurd (by rw [hm.1.1.2]; exact nI_lt (by omega) (by omega)) h⟩
      subst e1
      refine cr v2 8 0 S (by omega) ?_
      have := hm.1.counts (c := fun _ => 0) (fun e q hq => hc0 e ((pg_sw hi.pg i (Rb := Rb)).2.1 e q hq).1 ((pg_sw hi.pg i (Rb := Rb)).2.1 e q hq).2.1)
      exact ⟨this, hm.2⟩
    | succ m ih =>
      intro i S hm1 hc hma
      obtain ⟨c, hc0, hm⟩ := hc
      have hc1 : ∀ e, 1 ≤ e → e ≤ i + 1 → va_up c (i + 1) 0 e = 0 := fun e h1 h2 => by
        by_cases he : e = i + 1
        · subst he; exact va_up_self _ _ _
        · rw [va_up_ne _ _ he]; exact hc0 e h1 (by omega)
      refine hV 148 S _ ⟨fun h => absurd h (by rw [hm.1.1.2]; exact nI_nlt (by omega) (by omega)), fun _ => ⟨vp_in_nI (by omega) (by decide), fun S2 e2 => ?_⟩⟩
      rw [nI_clamp (by omega)] at e2 ⊢
      have hm2 : mk W E z t rg ((sw Rb i D).1, va_up c (i + 1) 0, (sw Rb i D).2.2) S2 := by
        rw [e2]
        exact ⟨hm.1.cnt (i + 1) 0, hm.2⟩
      have hma2 : ∀ e, 1 ≤ e → e ≤ E → (S2 11 e = 0 ↔ Rb e = false) := by rw [e2]; exact hma
      clear e2
      refine ⟨vp_in_nI (by omega) (by decide), ?_⟩
      refine hm2.1.live (by omega) (by omega) (fun hd y3 e3 => ?_) (fun q hd => ⟨vp_in_nI (by omega) (by decide), fun h4 y4 e4 => ?_, fun h4 => ?_⟩)
      · rw [nI_1] at e3; subst e3
        have hd' : D.1 (i + 1) = none := by rw [← sw_next (Rb := Rb)]; exact hd
        have := ih (i + 1) S2 (by omega) ⟨_, hc1, by rw [sw_dead hd']; exact hm2⟩ hma2
        rw [swn_dead hd'] at this
        exact this
      · rw [nI_1] at e4; subst e4
        have hr : Rb (i + 1) = true := by
          cases hr : Rb (i + 1) with
          | true => rfl
          | false => exact absurd ((hma2 (i + 1) (by omega) (by omega)).mpr hr) h4
        have := ih (i + 1) S2 (by omega) ⟨_, hc1, by rw [sw_keep hr]; exact hm2⟩ hma2
        rw [swn_keep hr] at this
        exact this
      · have hr : Rb (i + 1) = false := (hma2 (i + 1) (by omega) (by omega)).mp h4
        have hds : (sw Rb i D).1 (i + 1) = some q := hd
        have hd' : D.1 (i + 1) = some q := by rw [← sw_next (Rb := Rb)]; exact hd
        refine sm_takeAway (D := ((sw Rb i D).1, va_up c (i + 1) 0, (sw Rb i D).2.2)) (pg_sw hi.pg i) hm2 hd (fun S5 hm5 hfr _ y7 e7 y8 e8 => ?_)
        rw [nI_1] at e7 e8; subst e7; subst e8
        have := ih (i + 1) S5 (by omega) ⟨_, hc1, by rw [sw_go hr, pu_free_some hds]; rw [pu_free_some hd] at hm5; exact hm5⟩ (by rw [hfr 11 (by omega)]; exact hma2)
        rw [swn_go hr hd'] at this
        exact this
  -- marking is at an end
  have close : ∀ (v3 : Int32) (S : GS), gi W E z t rg D (re_set E rg D.1 also) S → (∀ e, re_root E rg D.1 also e → ¬ S 11 e = 0) → (∀ e, 1 ≤ e → e ≤ E → ¬ S 11 e = 0 → cl_at E D S e) → V 70 S [also, 0, v3] := by
    intro v3 S hg hro hcl
    refine hV 70 S _ ⟨fun _ y1 e1 y2 e2 => ?_, fun h => zero_ne h⟩
    subst e1; subst e2
    refine sweep 0 E 0 S (Nat.zero_add _) ⟨D.2.1, fun e h1 h2 => (by omega), hg.1⟩ (fun e e1 e2 => ?_)
    have hiff : ¬ S 11 e = 0 ↔ re_set E rg D.1 also e := ⟨hg.2 e e1 e2, fun hr => (hr (fun e => 1 ≤ e ∧ e ≤ E ∧ ¬ S 11 e = 0) (fun e he => ?_) (fun e e' w he hw he' => ?_)).2.2⟩
    · constructor
      · intro h
        cases hr : Rb e with
        | false => rfl
        | true => exact absurd h (hiff.mpr ((hRb e).mp hr))
      · intro h
        refine Classical.byContradiction (fun hn => ?_)
        rw [(hRb e).mpr (hiff.mp hn)] at h; cases h
    · obtain ⟨a, b, -⟩ := (re_set.root (D := D) he).live hE
      exact ⟨a, b, hro e he⟩
    · obtain ⟨a, b, c, d⟩ := (pu_ent_some hE).mp he'
      exact ⟨a, b, hcl e he.1 he.2.1 he.2.2 w e' hw he'⟩
  have c0 : ∀ (v2 : Int32) (S2 : GS) (i : Nat), (v2 = 0 ∨ v2 = 1) → V 78 S2 [also, v2, nI (i + 1 + 1)] → (∀ y1 : Int32, y1 = 0 → ((¬ v2 = 0 → ∀ y2 : Int32, y2 = 1 → (∀ y3 : Int32, y3 = nI (i + 1) + 1 → V 78 S2 [also, y2, y3])) ∧ (v2 = 0 → ((y1 = 0 → ∀ y4 : Int32, y4 = 0 → (∀ y5 : Int32, y5 = nI (i + 1) + 1 → V 78 S2 [also, y4, y5])) ∧ (¬ y1 = 0 → ∀ y6 : Int32, y6 = 1 → (∀ y7 : Int32, y7 = nI (i + 1) + 1 → V 78 S2 [also, y6, y7])))))) := by
    intro v2 S2 i hor hv y1 e1
    refine ⟨fun h y2 e2 y3 e3 => ?_, fun h => ⟨fun _ y4 e4 y5 e5 => ?_, fun h2 => absurd e1 h2⟩⟩
    · rw [nI_1] at e3; subst e2; subst e3
      rcases hor with h2 | h2
      · exact absurd h2 h
      · subst h2; exact hv
    · rw [nI_1] at e5; subst e4; subst e5; subst h
      exact hv
  have c1 : ∀ (v2 : Int32) (S2 : GS) (i : Nat), V 78 S2 [also, 1, nI (i + 1 + 1)] → (∀ y1 : Int32, y1 = 1 → ((¬ v2 = 0 → ∀ y2 : Int32, y2 = 1 → (∀ y3 : Int32, y3 = nI (i + 1) + 1 → V 78 S2 [also, y2, y3])) ∧ (v2 = 0 → ((y1 = 0 → ∀ y4 : Int32, y4 = 0 → (∀ y5 : Int32, y5 = nI (i + 1) + 1 → V 78 S2 [also, y4, y5])) ∧ (¬ y1 = 0 → ∀ y6 : Int32, y6 = 1 → (∀ y7 : Int32, y7 = nI (i + 1) + 1 → V 78 S2 [also, y6, y7])))))) := by
    intro v2 S2 i hv y1 e1
    refine ⟨fun _ y2 e2 y3 e3 => ?_, fun h => ⟨fun h2 => by rw [e1] at h2; exact one_ne h2, fun _ y6 e6 y7 e7 => ?_⟩⟩
    · rw [nI_1] at e3; subst e2; subst e3; exact hv
    · rw [nI_1] at e7; subst e6; subst e7; exact hv
  have rounds : ∀ (N : Nat) (v3 : Int32) (S : GS), un E S < N → gi W E z t rg D (re_set E rg D.1 also) S → (∀ e, re_root E rg D.1 also e → ¬ S 11 e = 0) → V 70 S [also, 1, v3] := by
    intro N
    induction N with
    | zero => intro v3 S h; exact absurd h (Nat.not_lt_zero _)
    | succ N ih =>
      intro v3 S hN hg hro
      have pass : ∀ (m i : Nat) (v2 : Int32) (S1 : GS), i + m = E → gi W E z t rg D (re_set E rg D.1 also) S1 → (∀ e, ¬ S 11 e = 0 → ¬ S1 11 e = 0) → ((v2 = 0 ∧ S1 = S ∧ ∀ e, 1 ≤ e → e ≤ i → ¬ S 11 e = 0 → cl_at E D S e) ∨ (v2 = 1 ∧ un E S1 < un E S)) → V 78 S1 [also, v2, nI (i + 1)] := by
        intro m
        induction m with
        | zero =>
          intro i v2 S1 hm1 hg1 hmo hor
          have : i = E := by omega
          subst this
          refine hV 78 S1 _ ⟨fun _ => ?_, fun h => absurd (by rw [hg1.1.1.1.2]; exact nI_lt (by omega) (by omega)) h⟩
          rcases hor with ⟨rfl, rfl, hc⟩ | ⟨rfl, hu⟩
          · exact close _ S1 hg1 hro hc
          · exact ih _ S1 (by omega) hg1 (fun e he => hmo e (hro e he))
        | succ m ihm =>
          intro i v2 S1 hm1 hg1 hmo hor
          have hv2 : v2 = 0 ∨ v2 = 1 := by
            rcases hor with ⟨h, -⟩ | ⟨h, -⟩
            · exact Or.inl h
            · exact Or.inr h
          refine hV 78 S1 _ ⟨fun h => absurd h (by rw [hg1.1.1.1.2]; exact nI_nlt (by omega) (by omega)), fun _ => ⟨vp_in_nI (by omega) (by decide), ?_⟩⟩
          rw [nI_clamp (by omega)]
          -- nothing of it is marked, or it isn't there
          have skip : (¬ S1 11 (i + 1) = 0 → cl_at E D S1 (i + 1)) → V 78 S1 [also, v2, nI (i + 1 + 1)] := fun hsk => by
            refine ihm (i + 1) v2 S1 (by omega) hg1 hmo ?_
            rcases hor with ⟨rfl, rfl, hc⟩ | h
            · refine Or.inl ⟨rfl, rfl, fun e e1 e2 he => ?_⟩
              by_cases hei : e = i + 1
              · subst hei; exact hsk he
              · exact hc e e1 (by omega) he
            · exact Or.inr h
          refine hg1.1.1.live (by omega) (by omega) (fun hd => c0 v2 S1 i hv2 (skip (fun _ w e' hw _ => ?_))) (fun q hd => ⟨vp_in_nI (by omega) (by decide), fun h11 => c0 v2 S1 i hv2 (skip (fun h => absurd h11 h)), fun h11 => ?_⟩)
          · unfold pu_ws at hw
            rw [hd] at hw; cases hw
          · have hR := hg1.2 (i + 1) (by omega) (by omega) h11
            refine sm_spread hi.pg hg1 hd (fun w hw => hi.wrd hd hw) (fun w hw e he => hR.next (by rw [ws_some hd]; exact hw) he) (fun r S2 hg2 hmo2 hor2 => ?_)
            rcases hor2 with ⟨rfl, rfl, hcl⟩ | ⟨rfl, hu⟩
            · exact ⟨fun _ => c0 v2 S2 i hv2 (skip (fun _ => hcl)), fun h => zero_ne h⟩
            · refine ⟨fun h => one_ne h, fun _ => c1 v2 S2 i (ihm (i + 1) 1 S2 (by omega) hg2 (fun e h => hmo2 e (hmo e h)) (Or.inr ⟨rfl, ?_⟩))⟩
              rcases hor with ⟨-, rfl, -⟩ | ⟨-, hu1⟩
              · exact hu
              · omega
      refine hV 70 S _ ⟨fun h => one_ne h, fun _ y3 e3 y4 e4 => ?_⟩
      subst e3; subst e4
      exact pass E 0 0 S (Nat.zero_add _) hg (fun _ h => h) (Or.inl ⟨rfl, rfl, fun e h1 h2 => (by omega)⟩)
  -- the registers
  have regs : ∀ (m r : Nat) (v2 : Int32) (S : GS), r + m = 8 → gi W E z t rg D (re_set E rg D.1 also) S → (∀ e, pu_ent E D.1 also = some e → ¬ S 11 e = 0) → (∀ j e, j < r → pu_ent E D.1 (rg j) = some e → ¬ S 11 e = 0) → ((v2 = 0 ∧ ∀ e, 1 ≤ e → e ≤ E → S 11 e = 0) ∨ v2 = 1) → V 31 S [also, v2, nI r] := by
    intro m
    induction m with
    | zero =>
      intro r v2 S hm1 hg ha hr hor
      have hro : ∀ e, re_root E rg D.1 also e → ¬ S 11 e = 0 := fun e he => by
        rcases he with ⟨j, hj, he⟩ | he
        · exact hr j e (by omega) he
        · exact ha e he
      refine hV 31 S _ ⟨fun _ => ?_, fun h => absurd (nI_le (a := 8) (by omega) (by omega)) h⟩
      rcases hor with ⟨rfl, h0⟩ | rfl
      · exact close _ S hg hro (fun e e1 e2 he => absurd (h0 e e1 e2) he)
      · exact rounds (un E S + 1) _ S (Nat.lt_succ_self _) hg hro
    | succ m ih =>
      intro r v2 S hm1 hg ha hr hor
      refine hV 31 S _ ⟨fun h => absurd h (nI_ge (a := r) (b := 8) (by omega) (by decide)), fun _ => ⟨vp_in_nI (by omega) (by decide), ?_⟩⟩
      rw [nI_clamp (by omega), hg.1.1.2.1 r (by omega)]
      refine sm_reachR hi.pg hg (hi.reg (by omega)) (fun e he => re_set.root (Or.inl ⟨r, by omega, he⟩)) (fun x S1 hg1 hmo hmk hor1 => ?_)
      have hr1 : ∀ j e, j < r + 1 → pu_ent E D.1 (rg j) = some e → ¬ S1 11 e = 0 := fun j e hj he => by
        by_cases hjr : j = r
        · subst hjr; exact hmk e he
        · exact hmo e (hr j e (by omega) he)
      have ha1 : ∀ e, pu_ent E D.1 also = some e → ¬ S1 11 e = 0 := fun e he => hmo e (ha e he)
      rcases hor with ⟨rfl, h0⟩ | rfl
      · refine ⟨fun h => zero_ne h, fun _ => ?_⟩
        rcases hor1 with ⟨rfl, rfl⟩ | ⟨rfl, -⟩
        · refine ⟨fun _ y5 e5 y6 e6 => ?_, fun h => zero_ne h⟩
          rw [nI_1] at e6; subst e5; subst e6
          exact ih (r + 1) 0 S1 (by omega) hg1 ha1 hr1 (Or.inl ⟨rfl, h0⟩)
        · refine ⟨fun h => one_ne h, fun _ y5 e5 y6 e6 => ?_⟩
          rw [nI_1] at e6; subst e5; subst e6
          exact ih (r + 1) 1 S1 (by omega) hg1 ha1 hr1 (Or.inr rfl)
      · refine ⟨fun _ y5 e5 y6 e6 => ?_, fun h => one_ne h⟩
        rw [nI_1] at e6; subst e5; subst e6
        exact ih (r + 1) 1 S1 (by omega) hg1 ha1 hr1 (Or.inr rfl)
  have none_ : ∀ (m i : Nat) (S : GS), i + m = E → mk W E z t rg D S → (∀ j, 1 ≤ j → j ≤ i → S 11 j = 0) → V 2 S [also, nI (i + 1)] := by
    intro m
    induction m with
    | zero =>
      intro i S hm1 hm h0
      have : i = E := by omega
      subst this
      refine hV 2 S _ ⟨fun _ => ?_, fun h => absurd (by rw [hm.1.1.2]; exact nI_lt (by omega) (by omega)) h⟩
      refine sm_reachR (R := re_set i rg D.1 also) hi.pg ⟨hm, fun e e1 e2 he => absurd (h0 e e1 e2) he⟩ hv (fun e he => re_set.root (Or.inr he)) (fun x S1 hg1 hmo hmk hor1 y3 e3 => ?_)
      subst e3
      refine regs 8 0 x S1 (by omega) hg1 hmk (fun j e hj => absurd hj (Nat.not_lt_zero j)) ?_
      rcases hor1 with ⟨rfl, rfl⟩ | ⟨rfl, -⟩
      · exact Or.inl ⟨rfl, h0⟩
      · exact Or.inr rfl
    | succ m ih =>
      intro i S hm1 hm h0
      refine hV 2 S _ ⟨fun h => absurd h (by rw [hm.1.1.2]; exact nI_nlt (by omega) (by omega)), fun _ => ⟨vp_in_nI (by omega) (by decide), fun S4 e4 y5 e5 => ?_⟩⟩
      rw [nI_1] at e5
      rw [nI_clamp (by omega)] at e4
      subst e4; subst e5
      refine ih (i + 1) _ (by omega) (show mk W E z t rg D (gx_set 11 (i + 1) 0 S) from hm) (fun j j1 j2 => ?_)
      show upd (S 11) (i + 1) 0 j = 0
      by_cases hji : j = i + 1
      · subst hji; exact pk_us
      · rw [pk_un hji]; exact h0 j j1 (by omega)
  refine hV 0 S _ (fun y1 e1 => ?_)
  subst e1
  exact none_ E 0 S (Nat.zero_add _) hm (fun j j1 j2 => by omega)
theorem si_collect : sm_collect W E (JJ W E) := by
  intro n X M hn hj PX hP
  obtain ⟨rg, D, hi, hx, hm⟩ := hj
  obtain ⟨D', g, hto⟩ := co_to.ex E rg 0 D
  intro V hV
  refine hV 0 X [] (sx_takeUnreached hi hx hto (fun X1 hX1 => hP _ X1 (fun PM hM V2 hV2 => ?_)))
  refine hV2 0 M [] (fun S1 e1 => ?_)
  subst e1
  exact sm_gather hi (mk.start hm 0) (Or.inl rfl) hto (fun S' hS' => hM S' (JJ.of (hto.inv hi) hX1 hS' (by omega)))
end CO
