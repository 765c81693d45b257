/-! Free chunks, from the oldest to the youngest -/
/-- the arrays f (starts) and g (sizes) hold the chunks -/
def ch_rep (f g : Nat → Int32) (fr : List (Nat × Nat)) : Prop := ∀ (i : Nat) (c : Nat × Nat), fr[i]? = some c → f i = nI c.1 ∧ g i = nI c.2
theorem ch_rep.add {f g : Nat → Int32} {fr : List (Nat × Nat)} {a n : Nat} (h : ch_rep f g fr) : ch_rep (upd f fr.length (nI a)) (upd g fr.length (nI n)) (fr ++ [(a, n)]) := by
  intro i c hc
  by_cases hi : i < fr.length
  · rw [List.getElem?_append_left hi] at hc
    rw [pk_un (by omega), pk_un (by omega)]
    exact h i c hc
  · have hl : i < (fr ++ [(a, n)]).length := (List.getElem?_eq_some_iff.mp hc).1
    have hi' : i = fr.length := by simp at hl; omega
    subst hi'
    rw [List.getElem?_append_right (Nat.le_refl _), Nat.sub_self] at hc
    cases hc
    exact ⟨pk_us, pk_us⟩
theorem ch_rep.erase {f g : Nat → Int32} {fr : List (Nat × Nat)} {j : Nat} (h : ch_rep f g fr) (hj : j < fr.length) : ch_rep (va_cpy f f (j + 1) j (fr.length - 1 - j)) (va_cpy g g (j + 1) j (fr.length - 1 - j)) (fr.eraseIdx j) := by
  intro i c hc
  have hl : i < (fr.eraseIdx j).length := (List.getElem?_eq_some_iff.mp hc).1
  rw [List.length_eraseIdx_of_lt hj] at hl
  rw [List.getElem?_eraseIdx] at hc
  by_cases hi : i < j
  · rw [if_pos hi] at hc
    rw [pk_cpy_out (by omega), pk_cpy_out (by omega)]
    exact h i c hc
  · rw [if_neg hi] at hc
    rw [pk_cpy_in (by omega) (by omega), pk_cpy_in (by omega) (by omega), show j + 1 + (i - j) = i + 1 by omega]
    exact h (i + 1) c hc
/-- the chunk that is taken for n words: among those that hold so many the smallest, of one size the youngest -/
def ch_best (fr : List (Nat × Nat)) (n j : Nat) : Prop :=
  ∃ c, fr[j]? = some c ∧ n ≤ c.2 ∧ ∀ (i : Nat) (d : Nat × Nat), fr[i]? = some d → n ≤ d.2 → c.2 ≤ d.2 ∧ (j < i → c.2 < d.2)
theorem ch_best.uniq {fr : List (Nat × Nat)} {n i j : Nat} (hi : ch_best fr n i) (hj : ch_best fr n j) : i = j := by
  obtain ⟨c, c1, c2, c3⟩ := hi
  obtain ⟨d, d1, d2, d3⟩ := hj
  have a := c3 j d d1 d2
  have b := d3 i c c1 c2
  rcases Nat.lt_trichotomy i j with h | h | h
  · have := a.2 h; omega
  · exact h
  · have := b.2 h; omega
theorem ch_best.lt {fr : List (Nat × Nat)} {n j : Nat} (h : ch_best fr n j) : j < fr.length := by
  obtain ⟨c, c1, -⟩ := h
  exact (List.getElem?_eq_some_iff.mp c1).1
def ch_none (fr : List (Nat × Nat)) (n : Nat) : Prop := ∀ (i : Nat) (d : Nat × Nat), fr[i]? = some d → ¬ n ≤ d.2
/-- what is seen from place i on: nothing yet, or the best of them -/
def ch_seen (fr : List (Nat × Nat)) (n i : Nat) : Option Nat → Prop
  | none => ∀ (k : Nat) (d : Nat × Nat), i ≤ k → fr[k]? = some d → ¬ n ≤ d.2
  | some j => ∃ c, fr[j]? = some c ∧ i ≤ j ∧ n ≤ c.2 ∧ ∀ (k : Nat) (d : Nat × Nat), i ≤ k → fr[k]? = some d → n ≤ d.2 → c.2 ≤ d.2 ∧ (j < k → c.2 < d.2)
theorem ch_seen.start {fr : List (Nat × Nat)} {n : Nat} : ch_seen fr n fr.length none := by
  intro k d hk hd
  have := (List.getElem?_eq_some_iff.mp hd).1
  omega
theorem ch_seen.small {fr : List (Nat × Nat)} {n i : Nat} {b : Option Nat} {c : Nat × Nat} (h : ch_seen fr n (i + 1) b) (hc : fr[i]? = some c) (hn : ¬ n ≤ c.2) : ch_seen fr n i b := by
  cases b with
  | none =>
    intro k d hk hd
    by_cases hki : k = i
    · subst hki; rw [hc] at hd; cases hd; exact hn
    · exact h k d (by omega) hd
  | some j =>
    obtain ⟨e, e1, e2, e3, e4⟩ := h
    refine ⟨e, e1, by omega, e3, fun k d hk hd hnd => ?_⟩
    by_cases hki : k = i
    · subst hki; rw [hc] at hd; cases hd; exact absurd hnd hn
    · exact e4 k d (by omega) hd hnd
theorem ch_seen.keep {fr : List (Nat × Nat)} {n i j : Nat} {c e : Nat × Nat} (h : ch_seen fr n (i + 1) (some j)) (hc : fr[i]? = some c) (he : fr[j]? = some e) (hn : ¬ c.2 < e.2) : ch_seen fr n i (some j) := by
  obtain ⟨e', e1, e2, e3, e4⟩ := h
  rw [he] at e1
  cases e1
  refine ⟨e, he, by omega, e3, fun k d hk hd hnd => ?_⟩
  by_cases hki : k = i
  · subst hki; rw [hc] at hd; cases hd; exact ⟨by omega, fun z => by omega⟩
  · exact e4 k d (by omega) hd hnd
theorem ch_seen.first {fr : List (Nat × Nat)} {n i : Nat} {c : Nat × Nat} (h : ch_seen fr n (i + 1) none) (hc : fr[i]? = some c) (hn : n ≤ c.2) : ch_seen fr n i (some i) := by
  refine ⟨c, hc, Nat.le_refl _, hn, fun k d hk hd hnd => ?_⟩
  by_cases hki : k = i
  · subst hki; rw [hc] at hd; cases hd; exact ⟨Nat.le_refl _, fun z => absurd z (Nat.lt_irrefl _)⟩
  · exact absurd hnd (h k d (by omega) hd)
theorem ch_seen.less {fr : List (Nat × Nat)} {n i j : Nat} {c e : Nat × Nat} (h : ch_seen fr n (i + 1) (some j)) (hc : fr[i]? = some c) (he : fr[j]? = some e) (hn : n ≤ c.2) (hl : c.2 < e.2) : ch_seen fr n i (some i) := by
  obtain ⟨e', e1, e2, e3, e4⟩ := h
  rw [he] at e1
  cases e1
  refine ⟨c, hc, Nat.le_refl _, hn, fun k d hk hd hnd => ?_⟩
  by_cases hki : k = i
  · subst hki; rw [hc] at hd; cases hd; exact ⟨Nat.le_refl _, fun z => absurd z (Nat.lt_irrefl _)⟩
  · have := (e4 k d (by omega) hd hnd).1
    exact ⟨by omega, fun _ => by omega⟩
theorem ch_seen.done {fr : List (Nat × Nat)} {n j : Nat} (h : ch_seen fr n 0 (some j)) : ch_best fr n j := by
  obtain ⟨c, c1, -, c2, c3⟩ := h
  exact ⟨c, c1, c2, fun i d hd hn => c3 i d (Nat.zero_le _) hd hn⟩
theorem ch_seen.no {fr : List (Nat × Nat)} {n : Nat} (h : ch_seen fr n 0 none) : ch_none fr n := fun i d hd => h i d (Nat.zero_le _) hd
/-- all free words; chunks of a size -/
def ch_all (fr : List (Nat × Nat)) : Nat := (fr.map (fun c => c.2)).sum
def ch_of (fr : List (Nat × Nat)) (x : Int32) : Nat := (fr.filter (fun c => decide (nI c.2 = x))).length
theorem ch_all_take {fr : List (Nat × Nat)} {i : Nat} {c : Nat × Nat} (h : fr[i]? = some c) : ch_all (fr.take (i + 1)) = ch_all (fr.take i) + c.2 := by
  unfold ch_all
  rw [List.take_succ, h]
  simp
theorem ch_of_take {fr : List (Nat × Nat)} {i : Nat} {c : Nat × Nat} {x : Int32} (h : fr[i]? = some c) : ch_of (fr.take (i + 1)) x = ch_of (fr.take i) x + (if nI c.2 = x then 1 else 0) := by
  unfold ch_of
  rw [List.take_succ, h, List.filter_append]
  by_cases hx : nI c.2 = x <;> simp [hx]
