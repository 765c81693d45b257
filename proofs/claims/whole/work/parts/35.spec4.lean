/-! set, store, become. -/
section SPX4
variable {W E : Nat} {rg : Nat → Int32} {D : PD} {S : GS}
theorem cnt_cons {v a : Int32} {l : List Int32} : (v :: l).count a = l.count a + (if v = a then 1 else 0) := by
  by_cases h : v = a
  · subst h; rw [pu_cnt_eq, if_pos rfl]
  · rw [pu_cnt_ne h, if_neg h]; rfl
theorem cnt_one {v a : Int32} : [v].count a = if v = a then 1 else 0 := by
  rw [cnt_cons]
  show 0 + _ = _
  omega
theorem cnt_reg {n r : Nat} {v a : Int32} (h : r < n) : ((List.range n).map (va_up rg r v)).count a + (if rg r = a then 1 else 0) = ((List.range n).map rg).count a + (if v = a then 1 else 0) := by
  induction n with
  | zero => omega
  | succ n ih =>
    rw [List.range_succ, List.map_append, List.map_append, List.count_append, List.count_append]
    show _ + [va_up rg r v n].count a + _ = _ + [rg n].count a + _
    rw [cnt_one, cnt_one]
    by_cases hr : r = n
    · subst hr
      rw [va_up_self]
      have : (List.range r).map (va_up rg r v) = (List.range r).map rg := by
        refine List.map_congr_left (fun i hi => ?_)
        have := List.mem_range.mp hi
        exact va_up_ne _ _ (by omega)
      rw [this]
      omega
    · rw [va_up_ne _ _ (by omega)]
      have := ih (by omega)
      omega
theorem cnt_set {l : List Int32} : ∀ {i : Nat} {w v a : Int32}, l[i]? = some w → (l.set i v).count a + (if w = a then 1 else 0) = l.count a + (if v = a then 1 else 0) := by
  induction l with
  | nil => intro i w v a h; cases i <;> cases h
  | cons b l ih =>
    intro i w v a h
    cases i with
    | zero =>
      cases h
      rw [List.set_cons_zero, cnt_cons, cnt_cons]
      omega
    | succ i =>
      rw [List.set_cons_succ, cnt_cons, cnt_cons]
      have := ih (i := i) (w := w) (v := v) (a := a) h
      omega
theorem pu_add_CI {pend : List Int32} {v : Int32} (hE : E < 2 ^ 29) (h7 : ∀ e, D.2.1 e ≤ 7) (hv : pval E D v) (h : pu_CI E rg D (fun _ => false) pend) : pu_CI E rg (pu_add E D v) (fun _ => false) (v :: pend) := by
  obtain ⟨c1, c2, c3⟩ := h
  refine ⟨fun k k1 k2 k3 => ?_, fun k k1 k2 k3 => ?_, fun i hi => by cases hi⟩
  · rw [pu_add_ob] at k3 ⊢
    have hk := c1 k k1 k2 k3
    cases hn : pu_ent E D.1 v with
    | none =>
      rw [pu_add_none hn]
      have := (pu_ent_none hE).mp hn k k1 k2
      rw [pu_cnt_ne (fun z => by rw [this z] at k3; cases k3)]
      exact hk
    | some e =>
      obtain ⟨e1, e2, e3, e4⟩ := (pu_ent_some hE).mp hn
      subst e3
      rw [pu_add_some hn]
      by_cases hke : k = e
      · subst hke
        rw [pu_cnt_eq]
        split
        · right
          show va_up D.2.1 k (D.2.1 k + 1) k = _
          rw [va_up_self]
          omega
        · left
          have := h7 k
          omega
      · rw [pu_cnt_ne (fun z => hke (pu_inj hE e2 k2 z).symm)]
        split
        · show va_up D.2.1 e (D.2.1 e + 1) k = 7 ∨ va_up D.2.1 e (D.2.1 e + 1) k = _
          rw [va_up_ne _ _ hke]
          exact hk
        · exact hk
  · rw [pu_add_ob] at k3 ⊢
    rw [pu_cnt_ne ?_]
    · exact c2 k k1 k2 k3
    · rintro rfl
      rcases hv with h | h | ⟨e, q, e1, e2, e3, e4⟩
      · exact absurd h (nI_ne0 (by omega) (by omega))
      · exact h (nu_even (by omega))
      · have := pu_inj hE k2 e2 e3
        subst this
        rw [e4] at k3; cases k3
theorem pu_CI_reg {x : Nat → Bool} {pend : List Int32} {r : Nat} {v : Int32} (hr : r < 8) (h : pu_CI E rg D x (v :: pend)) : pu_CI E (va_up rg r v) D x (rg r :: pend) := by
  have key : ∀ e, pu_refs E (va_up rg r v) D.1 x e + (rg r :: pend).count (nI (2 * e)) = pu_refs E rg D.1 x e + (v :: pend).count (nI (2 * e)) := fun e => by
    rw [cnt_cons, cnt_cons]
    have := cnt_reg (rg := rg) (n := 8) (v := v) (a := nI (2 * e)) hr
    unfold pu_refs
    omega
  obtain ⟨c1, c2, c3⟩ := h
  exact ⟨fun e a b c => by rw [key]; exact c1 e a b c, fun e a b c => by rw [key]; exact c2 e a b c, c3⟩
theorem xr.reg {r : Nat} {v : Int32} (hx : xr E rg D S) : xr E (va_up rg r v) D (gx_set 3 r v S) := by
  refine ⟨fun k hk => ?_, hx.2⟩
  show upd (S 3) r v k = va_up rg r v k
  by_cases h : k = r
  · subst h; rw [pk_us, va_up_self]
  · rw [pk_un h, va_up_ne _ _ h]; exact hx.1 k hk
theorem mk.reg {z : Nat} {t : Int32} {r : Nat} {v : Int32} (hm : mk W E z t rg D S) : mk W E z t (va_up rg r v) D (gx_set 0 r v S) := by
  refine ⟨⟨hm.1.1, fun k hk => ?_, hm.1.2.2⟩, hm.2⟩
  show upd (S 0) r v k = va_up rg r v k
  by_cases h : k = r
  · subst h; rw [pk_us, va_up_self]
  · rw [pk_un h, va_up_ne _ _ h]; exact hm.1.2.1 k hk
theorem pinv_drop {v : Int32} (hi : pg W E D) (h7 : ∀ e, D.2.1 e ≤ 7) (hc : pu_CI E rg D (fun _ => false) [v]) (hr : ∀ r, r < 8 → pv E (rg r)) (hw : ∀ (e : Nat) (q : PO), D.1 e = some q → ∀ w ∈ q.2, pv E w) : pinv W E rg (pu_drop E 40 D v) := by
  have ha := pu_drop_after (rg := rg) (by have := hi.1; omega) 40 (fun _ => false) D v [] hc (Nat.le_trans (pu_pos_E D) hi.1.2.2.2)
  refine ⟨hi.1, (hi.drop 40 v).2, fun e => Nat.le_trans (ha.2.1 e) (h7 e), ha.1, hr, fun e q hq => ?_⟩
  rcases ha.2.2.2.1 e with h | h
  · exact hw e q (by rw [← h]; exact hq)
  · rw [h] at hq; cases hq
theorem sx_replaceRegister {r : Nat} {v : Int32} {post : Int32 → GS → Prop} (hi : pg W E D) (h7 : ∀ e, D.2.1 e ≤ 7) (hx : xr E rg D S) (hc : pu_CI E rg D (fun _ => false) []) (hv : pval E D v) (hr : r < 8) (hp : ∀ S' : GS, xr E (va_up rg r v) (pu_drop E 40 (pu_add E D v) (rg r)) S' → post (rg r) S') : wp_X_replaceRegister W E [nI r, v] S post := by
  intro V hV
  have hb := hi.1
  refine hV 0 S _ ⟨vp_in_nI hr (by decide), fun y1 e1 => ?_⟩
  rw [nI_clamp (by omega), hx.1 r hr] at e1
  subst e1
  refine sx_add hi h7 hx (fun S2 h2 _ => ⟨vp_in_nI hr (by decide), fun S4 e4 => ?_⟩)
  rw [nI_clamp (by omega)] at e4
  subst e4
  exact sx_dropReference (pu_add_pg hi) (pu_add_7 v h7) (pu_CI_reg hr (pu_add_CI (by omega) h7 hv hc)) h2.reg hp
theorem mk.ofr {z : Nat} {t : Int32} {D' : PD} {S' : GS} (hl : D'.2.2.length = D.2.2.length) (h : mr W E (z + D.2.2.length) rg D' S') (ht : S' 100 0 = t) : mk W E z t rg D' S' := ⟨by rw [hl]; exact h, ht⟩
theorem sm_replace {z : Nat} {t : Int32} {old v : Int32} {post : Int32 → GS → Prop} (hi : pg W E D) (h7 : ∀ e, D.2.1 e ≤ 7) (hw : ∀ (e : Nat) (q : PO), D.1 e = some q → ∀ w ∈ q.2, pv E w) (hv : pval E D v) (hvo : pv E old) (hc : pu_CI E rg (pu_add E D v) (fun _ => false) [old]) (hm : mk W E z t rg D S) (hp : ∀ S' : GS, mk W E z t rg (pu_drop E 40 (pu_add E D v) old) S' → post old S') : wp_M_replace [old, v] S post := by
  intro V hV
  refine hV 0 S _ (sm_add hi h7 hm.1 hv.pv (fun S1 h1 f1 => ?_))
  refine sm_leaves (pu_add_pg hi) (pu_add_7 v h7) (by rw [pu_add_ob]; exact hw) hvo hc (mk.ofr (D := D) (by rw [pu_add_fr]) h1 ?_) (fun S3 h3 => hp S3 h3)
  rw [f1 100 (by decide)]; exact hm.2
/-- what the calls leave to each other -/
theorem JJ.of {n : Nat} {X M : GS} {k : Nat} {t : Int32} (hi : pinv W E rg D) (hx : xr E rg D X) (hm : mk W E k t rg D M) (hk : k + 400 ≤ 2000 * (n + 1)) : JJ W E n X M :=
  ⟨rg, D, hi, hx, hm.1.mono (by have := hi.2.1.len; have := hi.1; omega)⟩
theorem mk.start {k : Nat} (hm : mr W E k rg D S) (v : Int32) : mk W E k v rg D (gx_set 100 0 v S) := ⟨(hm.thrown v).mono (by omega), rfl⟩
/-- a word of an object is another -/
theorem pu_geo.shape {ob ob' : PB} {fr : List (Nat × Nat)} (h : pu_geo W E ob fr) (hs : ∀ (k : Nat) (q' : PO), ob' k = some q' → ∃ q : PO, ob k = some q ∧ q.1 = q'.1 ∧ q.2.length = q'.2.length) : pu_geo W E ob' fr := by
  obtain ⟨h1, h2, h3, h4, h5⟩ := h
  refine ⟨fun e o ho => ?_, fun e e' o o' ho ho' hne => ?_, h3, h4, fun e o c ho hc => ?_⟩
  · obtain ⟨q, a, b, c⟩ := hs e o ho
    have := h1 e q a
    rw [← b, ← c]; exact this
  · obtain ⟨q, a, b, c⟩ := hs e o ho
    obtain ⟨q', a', b', c'⟩ := hs e' o' ho'
    have := h2 e e' q q' a a' hne
    rw [← b, ← c, ← b', ← c']; exact this
  · obtain ⟨q, a, b, c'⟩ := hs e o ho
    have := h5 e q c a hc
    rw [← b, ← c']; exact this
def pu_word (D : PD) (e : Nat) (q : PO) (j : Nat) (v : Int32) : PB := va_up D.1 e (some (q.1, q.2.set j v))
theorem pu_word_shape {e : Nat} {q : PO} {j : Nat} {v : Int32} (hd : D.1 e = some q) : ∀ (k : Nat) (q' : PO), pu_word D e q j v k = some q' → ∃ p : PO, D.1 k = some p ∧ p.1 = q'.1 ∧ p.2.length = q'.2.length := by
  intro k q' hk
  unfold pu_word at hk
  by_cases h : k = e
  · subst h
    rw [va_up_self] at hk
    cases hk
    exact ⟨q, hd, rfl, by rw [List.length_set]⟩
  · rw [va_up_ne _ _ h] at hk
    exact ⟨q', hk, rfl, rfl⟩
theorem pu_word_some {e : Nat} {q : PO} {j : Nat} {v : Int32} (hd : D.1 e = some q) (k : Nat) : (pu_word D e q j v k).isSome = (D.1 k).isSome := by
  unfold pu_word
  by_cases h : k = e
  · subst h; rw [va_up_self, hd]; rfl
  · rw [va_up_ne _ _ h]
theorem pu_ent_same {ob ob' : PB} (hs : ∀ k, (ob' k).isSome = (ob k).isSome) (v : Int32) : pu_ent E ob' v = pu_ent E ob v := by
  unfold pu_ent
  rw [hs]
theorem pu_add_same {ob' : PB} (hs : ∀ k, (ob' k).isSome = (D.1 k).isSome) (v : Int32) : pu_add E (ob', D.2.1, D.2.2) v = (ob', (pu_add E D v).2.1, (pu_add E D v).2.2) := by
  have := pu_ent_same (E := E) hs v
  cases h : pu_ent E D.1 v with
  | none => rw [pu_add_none h, pu_add_none (D := (ob', D.2.1, D.2.2)) (this.trans h)]
  | some e =>
    rw [pu_add_some h, pu_add_some (D := (ob', D.2.1, D.2.2)) (this.trans h)]
    dsimp only
    split <;> rfl
theorem xr.word {e : Nat} {q : PO} {j : Nat} {v : Int32} (hg : pu_geo W E D.1 D.2.2) (hx : xr E rg D S) (hd : D.1 e = some q) (hj : j < q.2.length) : xr E rg (pu_word D e q j v, D.2.1, D.2.2) (gx_set 0 (q.1 + 1 + j) v S) := by
  obtain ⟨h1, h2, h3, h4, h5⟩ := hx
  refine ⟨h1, fun k k1 k2 hk => ?_, fun k q' hk => ?_, h4, h5⟩
  · have hk' : pu_word D e q j v k = none := hk
    have : (D.1 k).isSome = false := by rw [← pu_word_some hd, hk']; rfl
    cases hd' : D.1 k with
    | none => exact h2 k k1 k2 hd'
    | some p => rw [hd'] at this; cases this
  · have hk' : va_up D.1 e (some (q.1, q.2.set j v)) k = some q' := hk
    by_cases hke : k = e
    · subst hke
      rw [va_up_self] at hk'
      cases hk'
      obtain ⟨a, b, c, d⟩ := h3 k q hd
      refine ⟨a, ?_, fun i w hw => ?_, d⟩
      · show upd (S 0) (q.1 + 1 + j) v q.1 = nI ((q.2.set j v).length - 1)
        rw [pk_un (by omega), List.length_set]; exact b
      · show upd (S 0) (q.1 + 1 + j) v (q.1 + 1 + i) = w
        have hw' : (q.2.set j v)[i]? = some w := hw
        by_cases hij : i = j
        · subst hij
          rw [List.getElem?_set_self hj] at hw'
          cases hw'
          exact pk_us
        · rw [List.getElem?_set_ne (by omega)] at hw'
          rw [pk_un (by omega)]; exact c i w hw'
    · rw [va_up_ne _ _ hke] at hk'
      obtain ⟨a, b, c, d⟩ := h3 k q' hk'
      have hdis := hg.2.1 k e q' q hk' hd hke
      have hl := (hg.1 k q' hk').2.2.1
      refine ⟨a, ?_, fun i w hw => ?_, d⟩
      · show upd (S 0) (q.1 + 1 + j) v q'.1 = _
        rw [pk_un (by omega)]; exact b
      · have hi := (List.getElem?_eq_some_iff.mp hw).1
        show upd (S 0) (q.1 + 1 + j) v (q'.1 + 1 + i) = w
        rw [pk_un (by omega)]; exact c i w hw
theorem mr.word {z : Nat} {e : Nat} {q : PO} {j : Nat} {v : Int32} (hg : pu_geo W E D.1 D.2.2) (hm : mr W E z rg D S) (hd : D.1 e = some q) (hj : j < q.2.length) : mr W E z rg (pu_word D e q j v, D.2.1, D.2.2) (gx_set 5 (q.1 + 1 + j) v S) := by
  obtain ⟨h0, h1, h2, h3, h5⟩ := hm
  refine ⟨h0, h1, fun k k1 k2 hk => ?_, fun k q' hk => ?_, h5⟩
  · have hk' : pu_word D e q j v k = none := hk
    have : (D.1 k).isSome = false := by rw [← pu_word_some hd, hk']; rfl
    cases hd' : D.1 k with
    | none => exact h2 k k1 k2 hd'
    | some p => rw [hd'] at this; cases this
  · have hk' : va_up D.1 e (some (q.1, q.2.set j v)) k = some q' := hk
    by_cases hke : k = e
    · subst hke
      rw [va_up_self] at hk'
      cases hk'
      obtain ⟨a0, a, b, c, d⟩ := h3 k q hd
      refine ⟨a0, a, ?_, fun i w hw => ?_, d⟩
      · show S 3 k = nI ((q.2.set j v).length - 1)
        rw [List.length_set]; exact b
      · show upd (S 5) (q.1 + 1 + j) v (q.1 + 1 + i) = w
        have hw' : (q.2.set j v)[i]? = some w := hw
        by_cases hij : i = j
        · subst hij
          rw [List.getElem?_set_self hj] at hw'
          cases hw'
          exact pk_us
        · rw [List.getElem?_set_ne (by omega)] at hw'
          rw [pk_un (by omega)]; exact c i w hw'
    · rw [va_up_ne _ _ hke] at hk'
      obtain ⟨a0, a, b, c, d⟩ := h3 k q' hk'
      have hdis := hg.2.1 k e q' q hk' hd hke
      have hl := (hg.1 k q' hk').2.2.1
      refine ⟨a0, a, b, fun i w hw => ?_, d⟩
      have hi := (List.getElem?_eq_some_iff.mp hw).1
      show upd (S 5) (q.1 + 1 + j) v (q'.1 + 1 + i) = w
      rw [pk_un (by omega)]; exact c i w hw
theorem pu_CI_word {pend : List Int32} {e : Nat} {q : PO} {j : Nat} {v old : Int32} (h1 : 1 ≤ e) (h2 : e ≤ E) (hd : D.1 e = some q) (hj : q.2[j]? = some old) (h : pu_CI E rg D (fun _ => false) (v :: pend)) : pu_CI E rg (pu_word D e q j v, D.2.1, D.2.2) (fun _ => false) (old :: pend) := by
  have key : ∀ k, pu_refs E rg (pu_word D e q j v) (fun _ => false) k + (old :: pend).count (nI (2 * k)) = pu_refs E rg D.1 (fun _ => false) k + (v :: pend).count (nI (2 * k)) := fun k => by
    rw [cnt_cons, cnt_cons]
    have h3 := cnt_set (v := v) (a := nI (2 * k)) hj
    have h4 := pu_sum_up (f := fun i => if (fun _ => false : Nat → Bool) i = true then 0 else (pu_ws (pu_word D e q j v) i).count (nI (2 * k))) (g := fun i => if (fun _ => false : Nat → Bool) i = true then 0 else (pu_ws D.1 i).count (nI (2 * k))) h1 h2 (fun i _ _ hi => by
      unfold pu_word pu_ws
      simp only [va_up_ne _ _ hi])
    have h5 : pu_ws (pu_word D e q j v) e = q.2.set j v := by
      unfold pu_word pu_ws
      rw [va_up_self]; rfl
    simp only [h5, ws_some hd, Bool.false_eq_true, if_false] at h4
    unfold pu_refs
    simp only [Bool.false_eq_true, if_false]
    omega
  obtain ⟨c1, c2, c3⟩ := h
  exact ⟨fun k a b c => by rw [key]; exact c1 k a b ((pu_word_some hd k).symm.trans c), fun k a b c => by rw [key]; exact c2 k a b ((pu_word_some hd k).symm.trans c), fun i hi => by cases hi⟩
end SPX4
section SIM4
variable {W E : Nat}
theorem pv_up {rg : Nat → Int32} {r : Nat} {v : Int32} (h : ∀ r, r < 8 → pv E (rg r)) (hv : pv E v) : ∀ k, k < 8 → pv E (va_up rg r v k) := fun k hk => by
  by_cases hkr : k = r
  · subst hkr; rw [va_up_self]; exact hv
  · rw [va_up_ne _ _ hkr]; exact h k hk
theorem reg_no {r : Int32} {j : Nat} (hj : j < 8) (h : r < 0 ∨ 8 ≤ r) (h2 : r = nI j) : False := by
  subst h2
  rcases h with h | h
  · exact absurd h (nI_pos (by omega))
  · exact absurd h (nI_ge (a := j) (b := 8) hj (by decide))
theorem si_set : sm_set W E (JJ W E) := by
  intro n X M a v hn hj PX PE hP hE1 hE2
  obtain ⟨rg, D, hi, hx, hm⟩ := hj
  have hb := hi.1
  have hJ : ∀ v, JJ W E (n + 1) X (gx_set 100 0 v M) := fun v => ⟨rg, D, hi, hx, (hm.thrown v).mono (by omega)⟩
  intro V hV
  refine hV 0 X _ (sx_isRegister (fun h => ⟨fun h2 => zero_ne h2, fun _ => hE1 X (fun PM hM V2 hV2 => ?_)⟩) (fun j hj h => ⟨fun _ => ?_, fun h2 => one_ne h2⟩))
  · refine hV2 0 M _ (sm_isRegister' (fun h => ⟨fun h2 => zero_ne h2, fun _ S1 e1 => ?_⟩) (fun j hj h2 => (reg_no hj h h2).elim))
    subst e1
    exact ⟨fun h2 => one_ne h2, fun _ => hM 0 _ rfl (hJ 1)⟩
  · subst h
    have hno : ∀ {P : Prop}, (nI j < 0 ∨ 8 ≤ nI j) → P := fun h => (reg_no hj h rfl).elim
    refine sx_isValue hi.pg hx (fun h => ⟨fun h2 => zero_ne h2, fun _ => hE2 X (fun PM hM V2 hV2 => ?_)⟩) (fun h => ⟨fun _ => ?_, fun h2 => one_ne h2⟩)
    · refine hV2 0 M _ (sm_isRegister' hno (fun _ _ _ => ⟨fun _ => ?_, fun h2 => one_ne h2⟩))
      refine sm_isValue hi.pg hm (fun _ => ⟨fun h2 => zero_ne h2, fun _ S1 e1 => ?_⟩) (fun h2 => absurd h2 h)
      subst e1
      exact ⟨fun h2 => absurd (show (2 : Int32) = 0 from h2) (by decide), fun _ => hM 0 _ rfl (hJ 2)⟩
    · have hc2 := pu_CI_reg hj (pu_add_CI (by omega) hi.2.2.1 h hi.2.2.2.1)
      refine sx_replaceRegister hi.pg hi.2.2.1 hx hi.2.2.2.1 h hj (fun X1 hX1 => hP _ X1 (fun PM hM V2 hV2 => ?_))
      refine hV2 0 M _ (sm_isRegister' hno (fun _ _ _ => ⟨fun _ => ?_, fun h2 => one_ne h2⟩))
      refine sm_isValue hi.pg hm (fun h2 => absurd h h2) (fun _ => ⟨fun _ S1 e1 => ⟨fun _ => ?_, fun h3 => absurd (by rw [e1]; rfl) h3⟩, fun h2 => one_ne h2⟩)
      have hm1 : mk W E (2000 * (n + 1)) 0 rg D S1 := by rw [e1]; exact mk.start hm 0
      clear e1
      refine hV2 37 S1 _ ⟨vp_in_nI hj (by decide), fun y1 ey => ⟨vp_in_nI hj (by decide), fun S2 e2 => ?_⟩⟩
      rw [nI_clamp (by omega)] at ey e2
      rw [hm1.1.2.1 j hj] at ey
      subst ey; subst e2
      refine sm_replace hi.pg hi.2.2.1 hi.2.2.2.2.2 h (hi.2.2.2.2.1 j hj) hc2 hm1.reg (fun S' hS' => hM _ hS'.2 ?_)
      exact JJ.of (pinv_drop (pu_add_pg hi.pg) (pu_add_7 v hi.2.2.1) hc2 (pv_up hi.2.2.2.2.1 h.pv) (by rw [pu_add_ob]; exact hi.2.2.2.2.2)) hX1 hS' (by omega)
theorem si_store : sm_store W E (JJ W E) := by
  intro n X M a k v hn hj PX PE hP hE2 hE1
  obtain ⟨rg, D, hi, hx, hm⟩ := hj
  have hb := hi.1
  have hJ : ∀ v, JJ W E (n + 1) X (gx_set 100 0 v M) := fun v => ⟨rg, D, hi, hx, (hm.thrown v).mono (by omega)⟩
  intro V hV
  rcases ent_cases hi a with h | ⟨e, q, h1, h2, rfl, hd⟩
  · refine hV 0 X _ (sx_obj0 hi hx h ⟨fun h => zero_ne h, fun _ => hE2 X (fun PM hM V2 hV2 => ?_)⟩)
    refine hV2 0 M _ (sm_obj0 hi hm h ⟨fun h => zero_ne h, fun _ S1 e1 => ?_⟩)
    subst e1
    exact ⟨fun h2 => one_ne h2, fun _ => hM 0 _ rfl (hJ 1)⟩
  · have hg := hi.2.1.1 e q hd
    refine hV 0 X _ (sx_obj1 hi hx h1 h2 hd ⟨fun _ => ?_, fun h => one_ne h⟩)
    refine hf_x hi hx h1 h2 hd (fun h => ⟨fun h => zero_ne h, fun _ => hE1 X (fun PM hM V2 hV2 => ?_)⟩) (fun j hj hk => ⟨fun _ => ?_, fun h => one_ne h⟩)
    · refine hV2 0 M _ (sm_obj1 hi hm h1 h2 hd ⟨fun _ => ?_, fun h => one_ne h⟩)
      refine hf_m hi hm h1 h2 hd (fun _ => ⟨fun h => zero_ne h, fun _ S1 e1 => ?_⟩) (fun j hj hk => absurd h (hf_ne hj hg.2.2.2.1 hk))
      subst e1
      exact ⟨fun h2 => absurd (show (2 : Int32) = 0 from h2) (by decide), fun _ => hM 0 _ rfl (hJ 2)⟩
    · subst hk
      have hnf := hf_ne (q := q) (k := nI j) hj hg.2.2.2.1 rfl
      refine sx_isValue hi.pg hx (fun h => ⟨fun h2 => zero_ne h2, fun _ => hE2 X (fun PM hM V2 hV2 => ?_)⟩) (fun hv => ⟨fun _ => ?_, fun h2 => one_ne h2⟩)
      · refine hV2 0 M _ (sm_obj1 hi hm h1 h2 hd ⟨fun _ => ?_, fun h => one_ne h⟩)
        refine hf_m hi hm h1 h2 hd (fun h => absurd h hnf) (fun _ _ _ => ⟨fun _ => ?_, fun h => one_ne h⟩)
        refine sm_isValue hi.pg hm (fun _ => ⟨fun h2 => zero_ne h2, fun _ S1 e1 => ?_⟩) (fun h2 => absurd h2 h)
        subst e1
        exact ⟨fun h2 => one_ne h2, fun _ => hM 0 _ rfl (hJ 1)⟩
      · obtain ⟨w, hw⟩ : ∃ w, q.2[j + 1]? = some w := ⟨q.2[j + 1]'(by omega), by rw [List.getElem?_eq_getElem]⟩
        have hxq := hx.2.2.1 e q hd
        have e2 : nI q.1 + 2 + nI j = nI (q.1 + 1 + (j + 1)) := by
          rw [show (2 : Int32) = nI 2 from rfl, nI_add, nI_add]; congr 1; omega
        have hpva := hi.2.2.2.2.2 e q hd w (List.mem_of_getElem? hw)
        have hsh := pu_word_shape (D := D) (j := j + 1) (v := v) hd
        have hiw : pg W E (pu_word D e q (j + 1) v, D.2.1, D.2.2) := ⟨hi.1, hi.2.1.shape hsh⟩
        have hvw : pval E (pu_word D e q (j + 1) v, D.2.1, D.2.2) v := by
          rcases hv with h | h | ⟨e', q', c1, c2, c3, c4⟩
          · exact Or.inl h
          · exact Or.inr (Or.inl h)
          · have : (pu_word D e q (j + 1) v e').isSome = true := by rw [pu_word_some hd, c4]; rfl
            obtain ⟨p, hp⟩ := Option.isSome_iff_exists.mp this
            exact Or.inr (Or.inr ⟨e', p, c1, c2, c3, hp⟩)
        have hww : ∀ (e' : Nat) (q' : PO), pu_word D e q (j + 1) v e' = some q' → ∀ w' ∈ q'.2, pv E w' := fun e' q' hq' w' hw' => by
          unfold pu_word at hq'
          by_cases hee : e' = e
          · subst hee
            rw [va_up_self] at hq'
            cases hq'
            rcases List.mem_or_eq_of_mem_set hw' with h | h
            · exact hi.2.2.2.2.2 e' q hd w' h
            · rw [h]; exact hv.pv
          · rw [va_up_ne _ _ hee] at hq'
            exact hi.2.2.2.2.2 e' q' hq' w' hw'
        have hAdd := pu_add_CI (by omega) hi.2.2.1 hv hi.2.2.2.1
        have hob : (pu_add E D v).1 e = some q := by rw [pu_add_ob]; exact hd
        have hC := pu_CI_word h1 h2 hob hw hAdd
        have hDD : pu_add E (pu_word D e q (j + 1) v, D.2.1, D.2.2) v = (pu_word (pu_add E D v) e q (j + 1) v, (pu_add E D v).2.1, (pu_add E D v).2.2) := by
          rw [pu_add_same (fun k => pu_word_some hd k) v]
          unfold pu_word
          rw [pu_add_ob]
        rw [← hDD] at hC
        have h7w := pu_add_7 (E := E) (D := (pu_word D e q (j + 1) v, D.2.1, D.2.2)) v hi.2.2.1
        have haw : ∀ (e' : Nat) (q' : PO), (pu_add E (pu_word D e q (j + 1) v, D.2.1, D.2.2) v).1 e' = some q' → ∀ w' ∈ q'.2, pv E w' := by rw [pu_add_ob]; exact hww
        intro V3 hV3
        refine hV3 0 X _ ⟨?_, ?_, ?_⟩
        · rw [nu_half (by omega)]; exact vp_in_nI (by omega) (by omega)
        · rw [nu_half (by omega), nI_clamp (by omega), hxq.1, e2]; exact vp_in_nI (by omega) (by omega)
        rw [nu_half (by omega), nI_clamp (by omega), hxq.1, e2, nI_clamp (by omega), hxq.2.2.1 (j + 1) w hw]
        intro y9 e9
        subst e9
        refine sx_add hi.pg hi.2.2.1 hx (fun S2 hx2 _ => ⟨vp_in_nI (by omega) (by omega), fun S12 e12 => ?_⟩)
        subst e12
        have hxw := hx2.word (W := W) (v := v) (by rw [pu_add_ob, pu_add_fr]; exact hi.2.1) hob (j := j + 1) (by omega)
        rw [← hDD] at hxw
        refine sx_dropReference (pu_add_pg hiw) h7w hC hxw (fun X1 hX1 => hP _ X1 (fun PM hM V2 hV2 => ?_))
        refine hV2 0 M _ (sm_obj1 hi hm h1 h2 hd ⟨fun _ => ?_, fun h => one_ne h⟩)
        refine hf_m hi hm h1 h2 hd (fun h => absurd h hnf) (fun _ _ _ => ⟨fun _ => ?_, fun h => one_ne h⟩)
        refine sm_isValue hi.pg hm (fun h2 => absurd hv h2) (fun _ => ⟨fun _ S1 e1 => ⟨fun _ => ?_, fun h3 => absurd (by rw [e1]; rfl) h3⟩, fun h2 => one_ne h2⟩)
        have hm1 : mk W E (2000 * (n + 1)) 0 rg D S1 := by rw [e1]; exact mk.start hm 0
        clear e1
        have hmq := hm1.1.2.2.2.1 e q hd
        refine hV2 51 S1 _ ⟨?_, fun y1 ey => ?_⟩
        · rw [nu_half (by omega)]; exact vp_in_nI (by omega) (by decide)
        rw [nu_half (by omega), nI_clamp (by omega), hmq.2.1, e2] at ey
        subst ey
        refine ⟨vp_in_nI (by omega) (by decide), fun y2 ey => ⟨vp_in_nI (by omega) (by decide), fun S3 e3 => ?_⟩⟩
        rw [nI_clamp (by omega)] at ey e3
        rw [hmq.2.2.2.1 (j + 1) _ hw] at ey
        subst ey; subst e3
        refine sm_replace hiw hi.2.2.1 hww hvw hpva hC ⟨hm1.1.word hi.2.1 hd (by omega), hm1.2⟩ (fun S' hS' => hM _ hS'.2 ?_)
        exact JJ.of (pinv_drop (pu_add_pg hiw) h7w hC hi.2.2.2.2.1 haw) hX1 hS' (by omega)
/-- two objects become one another -/
def pu_swap (ob : PB) (a b : Nat) : PB := va_up (va_up ob a (ob b)) b (ob a)
theorem pu_swap_at (ob : PB) (a b k : Nat) : ∃ k', pu_swap ob a b k = ob k' ∧ ((k = b ∧ k' = a) ∨ (k ≠ b ∧ k = a ∧ k' = b) ∨ (k ≠ b ∧ k ≠ a ∧ k' = k)) := by
  unfold pu_swap
  by_cases h : k = b
  · subst h; exact ⟨a, va_up_self _ _ _, Or.inl ⟨rfl, rfl⟩⟩
  · rw [va_up_ne _ _ h]
    by_cases h2 : k = a
    · subst h2; exact ⟨b, va_up_self _ _ _, Or.inr (Or.inl ⟨h, rfl, rfl⟩)⟩
    · rw [va_up_ne _ _ h2]; exact ⟨k, rfl, Or.inr (Or.inr ⟨h, h2, rfl⟩)⟩
theorem pu_swap_sum {f g : Nat → Nat} {a b n : Nat} (a1 : 1 ≤ a) (a2 : a ≤ n) (b1 : 1 ≤ b) (b2 : b ≤ n) (hga : g a = f b) (hgb : g b = f a) (h : ∀ i, i ≠ a → i ≠ b → g i = f i) : pu_sum g n = pu_sum f n := by
  by_cases hab : a = b
  · subst hab
    refine pu_sum_eq (fun i _ _ => ?_)
    by_cases hi : i = a
    · subst hi; exact hga
    · exact h i hi hi
  · have h1 := pu_sum_up (f := va_up f a (f b)) (g := f) (n := n) a1 a2 (fun i _ _ hi => va_up_ne _ _ hi)
    have h2 := pu_sum_up (f := g) (g := va_up f a (f b)) (n := n) b1 b2 (fun i _ _ hi => by
      by_cases hia : i = a
      · subst hia; rw [va_up_self]; exact hga
      · rw [va_up_ne _ _ hia]; exact h i hia hi)
    rw [va_up_self] at h1
    rw [va_up_ne _ _ (fun z => hab z.symm)] at h2
    omega
theorem si_become : sm_become W E (JJ W E) := by
  intro n X M a b hn hj PX PE hP hE2
  obtain ⟨rg, D, hi, hx, hm⟩ := hj
  have hb := hi.1
  have hJ : ∀ v, JJ W E (n + 1) X (gx_set 100 0 v M) := fun v => ⟨rg, D, hi, hx, (hm.thrown v).mono (by omega)⟩
  intro V hV
  rcases ent_cases hi a with h | ⟨e, q, h1, h2, rfl, hd⟩
  · refine hV 0 X _ (sx_obj0 hi hx h ⟨fun _ => hE2 X (fun PM hM V2 hV2 => ?_), fun h => zero_ne h⟩)
    refine hV2 0 M _ (sm_obj0 hi hm h ⟨fun _ S1 e1 => ?_, fun h => zero_ne h⟩)
    subst e1
    exact ⟨fun _ => hM _ rfl (hJ 1), fun h2 => one_ne h2⟩
  · refine hV 0 X _ (sx_obj1 hi hx h1 h2 hd ⟨fun h => one_ne h, fun _ => ?_⟩)
    rcases ent_cases hi b with h | ⟨f, p, k1, k2, rfl, hf⟩
    · refine sx_obj0 hi hx h ⟨fun h => zero_ne h, fun _ => hE2 X (fun PM hM V2 hV2 => ?_)⟩
      refine hV2 0 M _ (sm_obj1 hi hm h1 h2 hd ⟨fun h => one_ne h, fun _ => sm_obj0 hi hm h ⟨fun _ S1 e1 => ?_, fun h => zero_ne h⟩⟩)
      subst e1
      exact ⟨fun _ => hM _ rfl (hJ 1), fun h2 => one_ne h2⟩
    · have hsome : ∀ k, (pu_swap D.1 e f k).isSome = (D.1 k).isSome := fun k => by
        obtain ⟨k', h, hc⟩ := pu_swap_at D.1 e f k
        rw [h]
        rcases hc with ⟨rfl, rfl⟩ | ⟨-, rfl, rfl⟩ | ⟨-, -, rfl⟩
        · rw [hd, hf]; rfl
        · rw [hd, hf]; rfl
        · rfl
      have hgeo : pu_geo W E (pu_swap D.1 e f) D.2.2 := by
        obtain ⟨g1, g2, g3, g4, g5⟩ := hi.2.1
        refine ⟨fun k o ho => ?_, fun k k' o o' ho ho' hne => ?_, g3, g4, fun k o c ho hc => ?_⟩
        · obtain ⟨m, hm1, hc⟩ := pu_swap_at D.1 e f k
          have := g1 m o (hm1.symm.trans ho)
          refine ⟨by omega, by omega, this.2.2⟩
        · obtain ⟨m, hm1, hc⟩ := pu_swap_at D.1 e f k
          obtain ⟨m', hm1', hc'⟩ := pu_swap_at D.1 e f k'
          exact g2 m m' o o' (hm1.symm.trans ho) (hm1'.symm.trans ho') (by omega)
        · obtain ⟨m, hm1, hc'⟩ := pu_swap_at D.1 e f k
          exact g5 m o c (hm1.symm.trans ho) hc
      have hrefs : ∀ k, pu_refs E rg (pu_swap D.1 e f) (fun _ => false) k = pu_refs E rg D.1 (fun _ => false) k := fun k => by
        unfold pu_refs
        congr 1
        refine pu_swap_sum h1 h2 k1 k2 ?_ ?_ (fun i hi1 hi2 => ?_)
        · have : pu_swap D.1 e f e = D.1 f := by
            obtain ⟨m, hm1, hc⟩ := pu_swap_at D.1 e f e
            rw [hm1]
            rcases hc with ⟨r1, r2⟩ | ⟨-, -, r2⟩ | ⟨-, r1, -⟩
            · rw [r2, ← r1]
            · rw [r2]
            · exact absurd rfl r1
          simp only [pu_ws, this]
        · have : pu_swap D.1 e f f = D.1 e := va_up_self _ _ _
          simp only [pu_ws, this]
        · have : pu_swap D.1 e f i = D.1 i := by
            unfold pu_swap
            rw [va_up_ne _ _ hi2, va_up_ne _ _ hi1]
          simp only [pu_ws, this]
      have hinv : pinv W E rg (pu_swap D.1 e f, D.2.1, D.2.2) := by
        refine ⟨hi.1, hgeo, hi.2.2.1, ⟨fun k c1 c2 c3 => ?_, fun k c1 c2 c3 => ?_, fun i hi2 => by cases hi2⟩, hi.2.2.2.2.1, fun k o ho => ?_⟩
        · show D.2.1 k = 7 ∨ D.2.1 k = pu_refs E rg (pu_swap D.1 e f) _ k + _
          rw [hrefs]; exact hi.2.2.2.1.1 k c1 c2 ((hsome k).symm.trans c3)
        · show pu_refs E rg (pu_swap D.1 e f) _ k + _ = 0
          rw [hrefs]; exact hi.2.2.2.1.2.1 k c1 c2 ((hsome k).symm.trans c3)
        · obtain ⟨m, hm1, hc⟩ := pu_swap_at D.1 e f k
          exact hi.2.2.2.2.2 m o (hm1.symm.trans ho)
      have hnone : ∀ k, pu_swap D.1 e f k = none → D.1 k = none := fun k hk => by
        have := hsome k
        rw [hk] at this
        cases hdk : D.1 k with
        | none => rfl
        | some o => rw [hdk] at this; cases this
      have hxe := hx.2.2.1 e q hd
      have hxf := hx.2.2.1 f p hf
      refine sx_obj1 hi hx k1 k2 hf ⟨fun _ => ?_, fun h => one_ne h⟩
      rw [nu_half (by omega), nI_clamp (by omega)]
      refine ⟨vp_in_nI (by omega) (by omega), fun y5 e5 => ?_⟩
      rw [nu_half (by omega), nI_clamp (by omega)]
      refine ⟨vp_in_nI (by omega) (by omega), vp_in_nI (by omega) (by omega), fun S6 e6 => ⟨vp_in_nI (by omega) (by omega), fun S7 e7 => ?_⟩⟩
      have hX7 : xr E rg (pu_swap D.1 e f, D.2.1, D.2.2) S7 := by
        subst e7; subst e6; subst e5
        refine ⟨hx.1, fun k c1 c2 hk => ?_, fun k o ho => ?_, hx.2.2.2⟩
        · have hk' := hnone k hk
          show upd (upd (X 1) e (X 1 f)) f (X 1 e) k = -1
          rw [pk_un (fun z => by rw [z, hf] at hk'; cases hk'), pk_un (fun z => by rw [z, hd] at hk'; cases hk')]
          exact hx.2.1 k c1 c2 hk'
        · obtain ⟨m, hm1, hc⟩ := pu_swap_at D.1 e f k
          have ho' : D.1 m = some o := hm1.symm.trans ho
          obtain ⟨x1, x2, x3, x4⟩ := hx.2.2.1 m o ho'
          have hsk : D.1 k ≠ none := fun z => by
            have := hsome k
            rw [z, hm1, ho'] at this; cases this
          obtain ⟨o2, ho2⟩ := Option.ne_none_iff_exists'.mp hsk
          refine ⟨?_, x2, x3, (hx.2.2.1 k o2 ho2).2.2.2⟩
          show upd (upd (X 1) e (X 1 f)) f (X 1 e) k = nI o.1
          rcases hc with ⟨r1, r2⟩ | ⟨r0, r1, r2⟩ | ⟨r0, r1, r2⟩
          · subst r1; subst r2; rw [pk_us]; exact x1
          · subst r1; subst r2; rw [pk_un r0, pk_us]; exact x1
          · subst r2; rw [pk_un r0, pk_un r1]; exact x1
      clear e5 e6 e7
      refine hP S7 (fun PM hM V2 hV2 => ?_)
      refine hV2 0 M _ (sm_obj1 hi hm h1 h2 hd ⟨fun h => one_ne h, fun _ => sm_obj1 hi hm k1 k2 hf ⟨fun h => one_ne h, fun _ S1 e1 => ⟨fun h => absurd (by rw [e1]; rfl) h, fun _ => ?_⟩⟩⟩)
      have hm1 : mk W E (2000 * (n + 1)) 0 rg D S1 := by rw [e1]; exact mk.start hm 0
      clear e1
      rw [nu_half (by omega), nI_clamp (by omega)]
      refine ⟨vp_in_nI (by omega) (by decide), fun y1 ey1 => ⟨vp_in_nI (by omega) (by decide), fun y2 ey2 => ?_⟩⟩
      rw [nu_half (by omega), nI_clamp (by omega)]
      refine ⟨vp_in_nI (by omega) (by decide), vp_in_nI (by omega) (by decide), fun S2 e2 => ⟨vp_in_nI (by omega) (by decide), vp_in_nI (by omega) (by decide), fun S3 e3 => ⟨vp_in_nI (by omega) (by decide), fun S4 e4 => ⟨vp_in_nI (by omega) (by decide), fun S5 e5 => ?_⟩⟩⟩⟩
      have hM5 : mk W E (2000 * (n + 1)) 0 rg (pu_swap D.1 e f, D.2.1, D.2.2) S5 := by
        subst e5; subst e4; subst e3; subst e2; subst ey1; subst ey2
        refine ⟨⟨hm1.1.1, hm1.1.2.1, fun k c1 c2 hk => hm1.1.2.2.1 k c1 c2 (hnone k hk), fun k o ho => ?_, hm1.1.2.2.2.2⟩, hm1.2⟩
        obtain ⟨m, hm2, hc⟩ := pu_swap_at D.1 e f k
        have ho' : D.1 m = some o := hm2.symm.trans ho
        obtain ⟨x0, x1, x2, x3, x4⟩ := hm1.1.2.2.2.1 m o ho'
        have hsk : D.1 k ≠ none := fun z => by
          have := hsome k
          rw [z, hm2, ho'] at this; cases this
        obtain ⟨o2, ho2⟩ := Option.ne_none_iff_exists'.mp hsk
        have hk2 := hm1.1.2.2.2.1 k o2 ho2
        refine ⟨hk2.1, ?_, ?_, x3, hk2.2.2.2.2⟩
        · show upd (upd (S1 2) e (S1 2 f)) f (S1 2 e) k = nI o.1
          rcases hc with ⟨r1, r2⟩ | ⟨r0, r1, r2⟩ | ⟨r0, r1, r2⟩
          · subst r1; subst r2; rw [pk_us]; exact x1
          · subst r1; subst r2; rw [pk_un r0, pk_us]; exact x1
          · subst r2; rw [pk_un r0, pk_un r1]; exact x1
        · show upd (upd (S1 3) e (S1 3 f)) f (S1 3 e) k = nI (o.2.length - 1)
          rcases hc with ⟨r1, r2⟩ | ⟨r0, r1, r2⟩ | ⟨r0, r1, r2⟩
          · subst r1; subst r2; rw [pk_us]; exact x2
          · subst r1; subst r2; rw [pk_un r0, pk_us]; exact x2
          · subst r2; rw [pk_un r0, pk_un r1]; exact x2
      exact hM S5 hM5.2 (JJ.of hinv hX7 hM5 (by omega))
end SIM4
