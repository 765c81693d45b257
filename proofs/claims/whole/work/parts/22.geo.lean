/-! Where objects and free chunks lie: apart from each other, within the words -/
theorem ge_len : ∀ (W : Nat) (l : List Nat), l.Nodup → (∀ a ∈ l, a < W) → l.length ≤ W := by
  intro W
  induction W with
  | zero =>
    intro l _ h
    cases l with
    | nil => exact Nat.le_refl _
    | cons a l => exact absurd (h a List.mem_cons_self) (Nat.not_lt_zero a)
  | succ W ih =>
    intro l hn h
    have h1 := ih (l.erase W) (hn.erase W) (fun a ha => by
      have h2 := (List.Nodup.mem_erase_iff hn).mp ha
      have := h a h2.2
      omega)
    rw [List.length_erase] at h1
    split at h1 <;> omega
def pu_geo (W E : Nat) (ob : PB) (fr : List (Nat × Nat)) : Prop :=
  (∀ (e : Nat) (o : PO), ob e = some o → 1 ≤ e ∧ e ≤ E ∧ 1 ≤ o.2.length ∧ o.2.length ≤ 21 ∧ o.1 + (o.2.length + 1) ≤ W) ∧
  (∀ (e e' : Nat) (o o' : PO), ob e = some o → ob e' = some o' → e ≠ e' → o.1 + (o.2.length + 1) ≤ o'.1 ∨ o'.1 + (o'.2.length + 1) ≤ o.1) ∧
  (∀ c ∈ fr, 1 ≤ c.2 ∧ c.1 + c.2 ≤ W) ∧
  fr.Pairwise (fun c d => c.1 + c.2 ≤ d.1 ∨ d.1 + d.2 ≤ c.1) ∧
  (∀ (e : Nat) (o : PO) (c : Nat × Nat), ob e = some o → c ∈ fr → o.1 + (o.2.length + 1) ≤ c.1 ∨ c.1 + c.2 ≤ o.1)
theorem pu_geo.nd {W E : Nat} {ob : PB} {fr : List (Nat × Nat)} (h : pu_geo W E ob fr) : (fr.map (fun c => c.1)).Nodup := by
  obtain ⟨-, -, h3, h4, -⟩ := h
  rw [List.Nodup, List.pairwise_map]
  refine List.Pairwise.imp_of_mem (fun {a b} ha hb hab => ?_) h4
  have := h3 a ha
  have := h3 b hb
  omega
theorem pu_geo.len {W E : Nat} {ob : PB} {fr : List (Nat × Nat)} (h : pu_geo W E ob fr) : fr.length ≤ W := by
  have := ge_len W (fr.map (fun c => c.1)) h.nd (fun a ha => by
    obtain ⟨c, hc, rfl⟩ := List.mem_map.mp ha
    have := h.2.2.1 c hc
    omega)
  simpa using this
theorem pu_geo.len1 {W E : Nat} {ob : PB} {fr : List (Nat × Nat)} {e : Nat} {o : PO} (h : pu_geo W E ob fr) (ho : ob e = some o) : fr.length < W := by
  have hn : (o.1 :: fr.map (fun c => c.1)).Nodup := by
    rw [List.nodup_cons]
    refine ⟨fun hm => ?_, h.nd⟩
    obtain ⟨c, hc, hce⟩ := List.mem_map.mp hm
    have := h.2.2.1 c hc
    have := h.2.2.2.2 e o c ho hc
    omega
  have := ge_len W _ hn (fun a ha => by
    rcases List.mem_cons.mp ha with rfl | ha
    · have := (h.1 e o ho).2.2.2.2; omega
    · obtain ⟨c, hc, rfl⟩ := List.mem_map.mp ha
      have := h.2.2.1 c hc
      omega)
  simp at this
  omega
/-- an object goes: its words are a free chunk -/
theorem pu_geo.free {W E : Nat} {ob : PB} {fr : List (Nat × Nat)} {e : Nat} {o : PO} (h : pu_geo W E ob fr) (ho : ob e = some o) : pu_geo W E (va_up ob e none) (fr ++ [(o.1, o.2.length + 1)]) := by
  obtain ⟨h1, h2, h3, h4, h5⟩ := h
  have key : ∀ (k : Nat) (q : PO), va_up ob e none k = some q → k ≠ e ∧ ob k = some q := fun k q hk => by
    by_cases hke : k = e
    · subst hke; rw [va_up_self] at hk; cases hk
    · rw [va_up_ne _ _ hke] at hk; exact ⟨hke, hk⟩
  refine ⟨fun k q hk => h1 k q (key k q hk).2, fun k k' q q' hk hk' hne => h2 k k' q q' (key k q hk).2 (key k' q' hk').2 hne, fun c hc => ?_, ?_, fun k q c hk hc => ?_⟩
  · rcases List.mem_append.mp hc with hc | hc
    · exact h3 c hc
    · rw [List.mem_singleton.mp hc]
      have := (h1 e o ho).2.2.2.2
      exact ⟨by show 1 ≤ o.2.length + 1; omega, this⟩
  · rw [List.pairwise_append]
    refine ⟨h4, List.pairwise_singleton _ _, fun a ha b hb => ?_⟩
    rw [List.mem_singleton.mp hb]
    have := h5 e o a ho ha
    show a.1 + a.2 ≤ o.1 ∨ o.1 + (o.2.length + 1) ≤ a.1
    omega
  · rcases List.mem_append.mp hc with hc | hc
    · exact h5 k q c (key k q hk).2 hc
    · rw [List.mem_singleton.mp hc]
      exact h2 k e q o (key k q hk).2 ho (key k q hk).1
