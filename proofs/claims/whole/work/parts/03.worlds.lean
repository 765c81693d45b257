/-! The two worlds: the class's objects (o 0: CountedObjects, o 5: its FreeChunks) and its arrays, and the reference's. -/
def xw (cI cZ : ClassId) (o : Nat → Nat) (W E : Nat) (S : GS) : va_W :=
  [(o 0, .inr (0, [.ref (o 1), .ref (o 2), .ref (o 3), .ref (o 4), .ref (o 5), .ref (o 6), .ref (o 7), .int (S 100 1)])), (o 1, .inl (cI, W, .inl (S 0))), (o 2, .inl (cI, E + 1, .inl (S 1))), (o 3, .inl (cI, E + 1, .inl (S 2))), (o 4, .inl (cI, 8, .inl (S 3))),
    (o 5, .inr (1, [.ref (o 8), .ref (o 9), .int (S 100 0)])), (o 6, .inl (cZ, E + 1, .inl (S 4))), (o 7, .inl (cI, E, .inl (S 5))), (o 8, .inl (cI, W, .inl (S 6))), (o 9, .inl (cI, W, .inl (S 7)))]
section XWA
variable {cI cZ : ClassId} {o : Nat → Nat} {W E : Nat}
theorem xw_ad (S S' : GS) : (xw cI cZ o W E S').map (fun q => q.1) = (xw cI cZ o W E S).map (fun q => q.1) := rfl
theorem xa_words : GA (xw cI cZ o W E) [(cI, .int), (cZ, .boolean)] 1 (o 1) 0 W .int := ⟨cI, 0, fun _ => rfl, fun _ _ => rfl, rfl⟩
theorem xa_addresses : GA (xw cI cZ o W E) [(cI, .int), (cZ, .boolean)] 2 (o 2) 1 (E + 1) .int := ⟨cI, 0, fun _ => rfl, fun _ _ => rfl, rfl⟩
theorem xa_counts : GA (xw cI cZ o W E) [(cI, .int), (cZ, .boolean)] 3 (o 3) 2 (E + 1) .int := ⟨cI, 0, fun _ => rfl, fun _ _ => rfl, rfl⟩
theorem xa_registers : GA (xw cI cZ o W E) [(cI, .int), (cZ, .boolean)] 4 (o 4) 3 8 .int := ⟨cI, 0, fun _ => rfl, fun _ _ => rfl, rfl⟩
theorem xa_isReached : GA (xw cI cZ o W E) [(cI, .int), (cZ, .boolean)] 6 (o 6) 4 (E + 1) .boolean := ⟨cZ, 1, fun _ => rfl, fun _ _ => rfl, rfl⟩
theorem xa_reachedEntries : GA (xw cI cZ o W E) [(cI, .int), (cZ, .boolean)] 7 (o 7) 5 E .int := ⟨cI, 0, fun _ => rfl, fun _ _ => rfl, rfl⟩
theorem xa_starts : GA (xw cI cZ o W E) [(cI, .int), (cZ, .boolean)] 8 (o 8) 6 W .int := ⟨cI, 0, fun _ => rfl, fun _ _ => rfl, rfl⟩
theorem xa_sizes : GA (xw cI cZ o W E) [(cI, .int), (cZ, .boolean)] 9 (o 9) 7 W .int := ⟨cI, 0, fun _ => rfl, fun _ _ => rfl, rfl⟩
theorem xo_this : GO (xw cI cZ o W E) gx_cl 0 (o 0) 0 RX TX 8 (fun S => [.ref (o 1), .ref (o 2), .ref (o 3), .ref (o 4), .ref (o 5), .ref (o 6), .ref (o 7), .int (S 100 1)]) := ⟨fun _ => rfl, rfl⟩
theorem xo_fc : GO (xw cI cZ o W E) gx_cl 5 (o 5) 1 RF TF 3 (fun S => [.ref (o 8), .ref (o 9), .int (S 100 0)]) := ⟨fun _ => rfl, rfl⟩
theorem xp_held (S : GS) (v : Int32) : (xw cI cZ o W E S).set 5 (o 5, .inr (1, (([.ref (o 8), .ref (o 9), .int (S 100 0)] : List Value)).set 2 (.int v))) = xw cI cZ o W E (gx_set 100 0 v S) := rfl
theorem xp_reachedHeld (S : GS) (v : Int32) : (xw cI cZ o W E S).set 0 (o 0, .inr (0, (([.ref (o 1), .ref (o 2), .ref (o 3), .ref (o 4), .ref (o 5), .ref (o 6), .ref (o 7), .int (S 100 1)] : List Value)).set 7 (.int v))) = xw cI cZ o W E (gx_set 100 1 v S) := rfl
end XWA
def mw (cI cZ : ClassId) (o : Nat → Nat) (S : GS) : va_W :=
  [(o 0, .inr (2, [.int (S 100 0), .int (S 100 1), .int (S 100 2), .ref (o 1), .ref (o 2), .ref (o 3), .ref (o 4), .ref (o 5), .ref (o 6), .int (S 100 3), .ref (o 7), .ref (o 8), .ref (o 9), .int (S 100 4), .int (S 100 5), .ref (o 10), .ref (o 11), .ref (o 12)])), (o 1, .inl (cI, 8, .inl (S 0))), (o 2, .inl (cZ, 41, .inl (S 1))), (o 3, .inl (cI, 41, .inl (S 2))), (o 4, .inl (cI, 41, .inl (S 3))),
    (o 5, .inl (cI, 41, .inl (S 4))), (o 6, .inl (cI, 400, .inl (S 5))), (o 7, .inl (cI, 400, .inl (S 6))), (o 8, .inl (cI, 400, .inl (S 7))), (o 9, .inl (cI, 400, .inl (S 8))), (o 10, .inl (cI, 41, .inl (S 9))), (o 11, .inl (cI, 41, .inl (S 10))), (o 12, .inl (cZ, 41, .inl (S 11)))]
section MWA
variable {cI cZ : ClassId} {o : Nat → Nat}
theorem mw_ad (S S' : GS) : (mw cI cZ o S').map (fun q => q.1) = (mw cI cZ o S).map (fun q => q.1) := rfl
theorem ma_registers : GA (mw cI cZ o) [(cI, .int), (cZ, .boolean)] 1 (o 1) 0 8 .int := ⟨cI, 0, fun _ => rfl, fun _ _ => rfl, rfl⟩
theorem ma_lives : GA (mw cI cZ o) [(cI, .int), (cZ, .boolean)] 2 (o 2) 1 41 .boolean := ⟨cZ, 1, fun _ => rfl, fun _ _ => rfl, rfl⟩
theorem ma_addresses : GA (mw cI cZ o) [(cI, .int), (cZ, .boolean)] 3 (o 3) 2 41 .int := ⟨cI, 0, fun _ => rfl, fun _ _ => rfl, rfl⟩
theorem ma_sizes : GA (mw cI cZ o) [(cI, .int), (cZ, .boolean)] 4 (o 4) 3 41 .int := ⟨cI, 0, fun _ => rfl, fun _ _ => rfl, rfl⟩
theorem ma_counts : GA (mw cI cZ o) [(cI, .int), (cZ, .boolean)] 5 (o 5) 4 41 .int := ⟨cI, 0, fun _ => rfl, fun _ _ => rfl, rfl⟩
theorem ma_word : GA (mw cI cZ o) [(cI, .int), (cZ, .boolean)] 6 (o 6) 5 400 .int := ⟨cI, 0, fun _ => rfl, fun _ _ => rfl, rfl⟩
theorem ma_begins : GA (mw cI cZ o) [(cI, .int), (cZ, .boolean)] 7 (o 7) 6 400 .int := ⟨cI, 0, fun _ => rfl, fun _ _ => rfl, rfl⟩
theorem ma_lengths : GA (mw cI cZ o) [(cI, .int), (cZ, .boolean)] 8 (o 8) 7 400 .int := ⟨cI, 0, fun _ => rfl, fun _ _ => rfl, rfl⟩
theorem ma_came : GA (mw cI cZ o) [(cI, .int), (cZ, .boolean)] 9 (o 9) 8 400 .int := ⟨cI, 0, fun _ => rfl, fun _ _ => rfl, rfl⟩
theorem ma_goes : GA (mw cI cZ o) [(cI, .int), (cZ, .boolean)] 10 (o 10) 9 41 .int := ⟨cI, 0, fun _ => rfl, fun _ _ => rfl, rfl⟩
theorem ma_next : GA (mw cI cZ o) [(cI, .int), (cZ, .boolean)] 11 (o 11) 10 41 .int := ⟨cI, 0, fun _ => rfl, fun _ _ => rfl, rfl⟩
theorem ma_reached : GA (mw cI cZ o) [(cI, .int), (cZ, .boolean)] 12 (o 12) 11 41 .boolean := ⟨cZ, 1, fun _ => rfl, fun _ _ => rfl, rfl⟩
abbrev mo_fs (o : Nat → Nat) (S : GS) : List Value := [.int (S 100 0), .int (S 100 1), .int (S 100 2), .ref (o 1), .ref (o 2), .ref (o 3), .ref (o 4), .ref (o 5), .ref (o 6), .int (S 100 3), .ref (o 7), .ref (o 8), .ref (o 9), .int (S 100 4), .int (S 100 5), .ref (o 10), .ref (o 11), .ref (o 12)]
theorem mo_this : GO (mw cI cZ o) gx_cl 0 (o 0) 2 RM TM 18 (fun S => mo_fs o S) := ⟨fun _ => rfl, rfl⟩
theorem mp_thrown (S : GS) (v : Int32) : (mw cI cZ o S).set 0 (o 0, .inr (2, (mo_fs o S).set 0 (.int v))) = mw cI cZ o (gx_set 100 0 v S) := rfl
theorem mp_frees (S : GS) (v : Int32) : (mw cI cZ o S).set 0 (o 0, .inr (2, (mo_fs o S).set 9 (.int v))) = mw cI cZ o (gx_set 100 3 v S) := rfl
theorem mp_clock (S : GS) (v : Int32) : (mw cI cZ o S).set 0 (o 0, .inr (2, (mo_fs o S).set 13 (.int v))) = mw cI cZ o (gx_set 100 4 v S) := rfl
theorem mp_going (S : GS) (v : Int32) : (mw cI cZ o S).set 0 (o 0, .inr (2, (mo_fs o S).set 14 (.int v))) = mw cI cZ o (gx_set 100 5 v S) := rfl
end MWA
theorem ln_X_144 : Cond.methodLink RX 144 arraycopyName ∈ wsA := wsA_in (i := 130) (by decide +kernel) (by decide +kernel)
theorem ln_F_34 : Cond.methodLink RF 34 arraycopyName ∈ wsA := wsA_in (i := 291) (by decide +kernel) (by decide +kernel)
theorem na_copy : Cond.native arraycopyName ∈ wsA := wsA_in (i := 132) (by decide +kernel) (by decide +kernel)
theorem sm_copy : Cond.static arraycopyName ∈ wsA := wsA_in (i := 131) (by decide +kernel) (by decide +kernel)
