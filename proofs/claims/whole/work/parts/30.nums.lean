/-! Numbers: halves and parities; how the two sides hold the mathematical state. -/
theorem nu_half {e : Nat} (h : 2 * e < 2 ^ 31) : nI (2 * e) / 2 = nI e := by
  have := pk_div (a := 2 * e) (d := 2) h (by decide) (by decide)
  rw [show (2 : Int32) = nI 2 from rfl, this]
  congr 1
  omega
theorem nu_par (v : Int32) : (v - v / 2 * 2 = 0) ↔ (v &&& 1 = 0) := by
  have hb : v &&& 1 = nI (v.toBitVec.toNat % 2 ^ 1) := pk_and v 1 (by decide)
  have h0 : (v &&& 1 = 0) ↔ v.toBitVec.toNat % 2 = 0 := by
    rw [hb, show (0 : Int32) = nI 0 from rfl, nI_eq (by omega) (by decide)]
  rw [h0]
  have hlo := Int32.le_toInt v
  have hhi := Int32.toInt_lt v
  have ht : v.toInt = v.toBitVec.toInt := rfl
  have hpar : v.toInt % 2 = ((v.toBitVec.toNat % 2 : Nat) : Int) := by
    rw [ht, BitVec.toInt_eq_toNat_cond]
    split <;> omega
  have hq : (v / 2).toInt = v.toInt.tdiv 2 := by
    rw [Int32.toInt_div, show (2 : Int32).toInt = 2 from rfl]
    have h1 : -(2 ^ 31) ≤ v.toInt.tdiv 2 ∧ v.toInt.tdiv 2 < 2 ^ 31 := by
      rcases Int.le_total 0 v.toInt with h | h
      · rw [Int.tdiv_eq_ediv_of_nonneg h]; omega
      · obtain ⟨k, hk⟩ : ∃ k : Int, v.toInt = -k := ⟨-v.toInt, by omega⟩
        rw [hk, Int.neg_tdiv, Int.tdiv_eq_ediv_of_nonneg (by omega)]; omega
    rw [Int.bmod_eq_of_le] <;> omega
  have hm : (v / 2 * 2).toInt = v.toInt.tdiv 2 * 2 := by
    rw [Int32.toInt_mul, hq, show (2 : Int32).toInt = 2 from rfl]
    have h1 : -(2 ^ 31) ≤ v.toInt.tdiv 2 * 2 ∧ v.toInt.tdiv 2 * 2 < 2 ^ 31 := by
      rcases Int.le_total 0 v.toInt with h | h
      · rw [Int.tdiv_eq_ediv_of_nonneg h]; omega
      · obtain ⟨k, hk⟩ : ∃ k : Int, v.toInt = -k := ⟨-v.toInt, by omega⟩
        rw [hk, Int.neg_tdiv, Int.tdiv_eq_ediv_of_nonneg (by omega)]; omega
    rw [Int.bmod_eq_of_le] <;> omega
  have hs : (v - v / 2 * 2).toInt = v.toInt - v.toInt.tdiv 2 * 2 := by
    rw [Int32.toInt_sub, hm]
    have h1 : -1 ≤ v.toInt - v.toInt.tdiv 2 * 2 ∧ v.toInt - v.toInt.tdiv 2 * 2 ≤ 1 := by
      rcases Int.le_total 0 v.toInt with h | h
      · rw [Int.tdiv_eq_ediv_of_nonneg h]; omega
      · obtain ⟨k, hk⟩ : ∃ k : Int, v.toInt = -k := ⟨-v.toInt, by omega⟩
        rw [hk, Int.neg_tdiv, Int.tdiv_eq_ediv_of_nonneg (by omega)]; omega
    rw [Int.bmod_eq_of_le] <;> omega
  rw [← Int32.toInt_inj, hs, show (0 : Int32).toInt = 0 from rfl]
  rcases Int.le_total 0 v.toInt with h | h
  · rw [Int.tdiv_eq_ediv_of_nonneg h]; omega
  · obtain ⟨k, hk⟩ : ∃ k : Int, v.toInt = -k := ⟨-v.toInt, by omega⟩
    rw [hk, Int.neg_tdiv, Int.tdiv_eq_ediv_of_nonneg (by omega)]
    rw [hk] at hpar
    omega
theorem nu_even {e : Nat} (h : 2 * e < 2 ^ 31) : nI (2 * e) &&& 1 = 0 := by
  rw [pk_andN (n := 2 * e) (by omega) 1 (by decide), show 2 * e % 2 ^ 1 = 0 by omega]
  rfl
theorem nu_pos {v : Int32} (h : ¬ v ≤ 0) : ∃ j : Nat, 0 < j ∧ j < 2 ^ 31 ∧ v = nI j := by
  have h1 : ¬ v < 0 := fun h2 => h (Int32.le_of_lt h2)
  obtain ⟨j, hj, rfl⟩ := nI_of h1
  refine ⟨j, ?_, hj, rfl⟩
  rcases Nat.eq_zero_or_pos j with h0 | h0
  · subst h0; exact absurd (Int32.le_refl _) h
  · exact h0
/-- a number that is a word: nothing, odd, or an object's number in range -/
def pv (E : Nat) (w : Int32) : Prop := w = 0 ∨ ¬ w &&& 1 = 0 ∨ ∃ e, 1 ≤ e ∧ e ≤ E ∧ w = nI (2 * e)
/-- the class's contents hold the state -/
def xr (E : Nat) (rg : Nat → Int32) (D : PD) (S : GS) : Prop :=
  (∀ r, r < 8 → S 3 r = rg r) ∧ (∀ e, 1 ≤ e → e ≤ E → D.1 e = none → S 1 e = -1) ∧
  (∀ (e : Nat) (q : PO), D.1 e = some q → S 1 e = nI q.1 ∧ S 0 q.1 = nI (q.2.length - 1) ∧ (∀ (k : Nat) (w : Int32), q.2[k]? = some w → S 0 (q.1 + 1 + k) = w) ∧ S 2 e = nI (D.2.1 e)) ∧
  S 100 0 = nI D.2.2.length ∧ ch_rep (S 6) (S 7) D.2.2
/-- the reference's chunks: in any order, told apart by when they came -/
def mc (k : Nat) (fr : List (Nat × Nat)) (S : GS) : Prop :=
  ∃ (c : Nat) (P Z : List (Nat × Nat × Nat)), c ≤ k ∧ S 100 4 = nI c ∧ S 100 3 = nI P.length ∧ (∀ (i : Nat) (q : Nat × Nat × Nat), P[i]? = some q → S 6 i = nI q.1 ∧ S 7 i = nI q.2.1 ∧ S 8 i = nI q.2.2) ∧ P.Perm Z ∧ Z.Pairwise (fun a b => a.2.2 < b.2.2) ∧ (∀ q ∈ Z, q.2.2 < c) ∧ Z.map (fun q => (q.1, q.2.1)) = fr
/-- the reference's contents hold the state -/
def mr (W E k : Nat) (rg : Nat → Int32) (D : PD) (S : GS) : Prop :=
  (S 100 1 = nI W ∧ S 100 2 = nI E) ∧ (∀ r, r < 8 → S 0 r = rg r) ∧ (∀ e, 1 ≤ e → e ≤ E → D.1 e = none → S 1 e = 0) ∧
  (∀ (e : Nat) (q : PO), D.1 e = some q → S 1 e = 1 ∧ S 2 e = nI q.1 ∧ S 3 e = nI (q.2.length - 1) ∧ (∀ (k : Nat) (w : Int32), q.2[k]? = some w → S 5 (q.1 + 1 + k) = w) ∧ S 4 e = nI (D.2.1 e)) ∧ mc k D.2.2 S
/-- what holds of the state between two calls -/
def pinv (W E : Nat) (rg : Nat → Int32) (D : PD) : Prop :=
  (16 ≤ W ∧ W ≤ 400 ∧ 2 ≤ E ∧ E ≤ 40) ∧ pu_geo W E D.1 D.2.2 ∧ (∀ e, D.2.1 e ≤ 7) ∧ pu_CI E rg D (fun _ => false) [] ∧ (∀ r, r < 8 → pv E (rg r)) ∧ (∀ (e : Nat) (q : PO), D.1 e = some q → ∀ w ∈ q.2, pv E w)
def JJ (W E n : Nat) (X M : GS) : Prop := ∃ (rg : Nat → Int32) (D : PD), pinv W E rg D ∧ xr E rg D X ∧ mr W E (2000 * (n + 1)) rg D M
theorem xr.of_rows {E : Nat} {rg : Nat → Int32} {D : PD} {S S' : GS} (h : ∀ k, k < 150 → S k = S' k) (hx : xr E rg D S) : xr E rg D S' := by
  obtain ⟨h1, h2, h3, h4, h5⟩ := hx
  unfold xr
  rw [← h 3 (by decide), ← h 1 (by decide), ← h 0 (by decide), ← h 2 (by decide), ← h 100 (by decide), ← h 6 (by decide), ← h 7 (by decide)]
  exact ⟨h1, h2, h3, h4, h5⟩
theorem mc.mono {k k' : Nat} {fr : List (Nat × Nat)} {S : GS} (hk : k ≤ k') (h : mc k fr S) : mc k' fr S := by
  obtain ⟨c, P, Z, h1, h2⟩ := h
  exact ⟨c, P, Z, Nat.le_trans h1 hk, h2⟩
theorem mr.mono {W E k k' : Nat} {rg : Nat → Int32} {D : PD} {S : GS} (hk : k ≤ k') (h : mr W E k rg D S) : mr W E k' rg D S := ⟨h.1, h.2.1, h.2.2.1, h.2.2.2.1, h.2.2.2.2.mono hk⟩
/-- 'thrown' is nothing of the state -/
theorem mr.thrown {W E k : Nat} {rg : Nat → Int32} {D : PD} {S : GS} (v : Int32) (h : mr W E k rg D S) : mr W E k rg D (gx_set 100 0 v S) := h
theorem xr.used {W E : Nat} {rg : Nat → Int32} {D : PD} {S : GS} (hg : pu_geo W E D.1 D.2.2) (hW : W ≤ 400) (h : xr E rg D S) {e : Nat} (h1 : 1 ≤ e) (h2 : e ≤ E) : S 1 e = -1 ↔ D.1 e = none := by
  constructor
  · intro h3
    cases hd : D.1 e with
    | none => rfl
    | some q =>
      have h4 := (h.2.2.1 e q hd).1
      have h5 := (hg.1 e q hd).2.2.2.2
      rw [h4] at h3
      have h6 : (nI q.1).toInt = (-1 : Int32).toInt := by rw [h3]
      rw [nI_toInt (by omega), show (-1 : Int32).toInt = -1 from by decide] at h6
      omega
  · exact h.2.1 e h1 h2
