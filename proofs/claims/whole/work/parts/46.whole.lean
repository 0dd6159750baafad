/-! THE WHOLE, given the pure statement: the two decompiled systems answer alike on every script -/
theorem nest_w {b : Nat} {s : State} {w : Cond} (hts : ∀ w ∈ lw_tbl, w.before #[Value.ref b] s = true) (i : Nat) (h : tables_1[i]? = some w) (ho : w.onTables = true) : va_Nw w s := va_Nw.of ho (hts w (List.mem_append_right _ (List.mem_of_getElem? h)))
set_option maxRecDepth 100000 in
set_option maxHeartbeats 4000000 in
theorem whole_open (PURE : ∀ (L : Nat) (xs : Nat → Int32), L ≤ 2560 → f_L_law cm0 mm0 lm0 L xs = some 1) {p : Program} {e : Env} {s : State} {m : MethodId} {below : List Frame} {meth : Method} {c : Code} (l : Launch) {b L : Nat} {xs : Nat → Int32} (hL : L ≤ 2560) (C0 : lw_At p s m meth c b L xs) : W p l e room_1 s m #[Value.ref b] below meth c s.heap [] 0 0 (lw_Z below #[Value.ref b] s) (entryFrame m ([Value.ref b] : List Value).toArray 4) := by
  obtain ⟨hx, hb, hr, hml, hown, hts0, hXs, hbl, hlocks, hgv⟩ := C0
  have hts : ∀ w ∈ Gt, w.before #[Value.ref b] s = true := fun w hw => hts0 w (gt_tbl hw)
  obtain ⟨c0, iS0, hKn0⟩ := u_known (C := RX0) (T := TX0) (N := 12) (n := 12) hts us_0 (hts (.instantiable RX0 12) wi_0)
  obtain ⟨c1, iS1, hKn1⟩ := u_known (C := RX1) (T := TX1) (N := 1) (n := 1) hts us_1 (hts (.instantiable RX1 1) wi_1)
  obtain ⟨c2, iS2, hKn2⟩ := u_known (C := RX2) (T := TX2) (N := 3) (n := 3) hts us_2 (hts (.instantiable RX2 3) wi_2)
  obtain ⟨c3, iS3, hKn3⟩ := u_known (C := RX3) (T := TX3) (N := 1) (n := 1) hts us_3 (hts (.instantiable RX3 1) wi_3)
  obtain ⟨c4, iS4, hKn4⟩ := u_known (C := RX4) (T := TX4) (N := 1) (n := 1) hts us_4 (hts (.instantiable RX4 1) wi_4)
  obtain ⟨c5, iS5, hKn5⟩ := u_known (C := RX5) (T := TX5) (N := 2) (n := 2) hts us_5 (hts (.instantiable RX5 2) wi_5)
  obtain ⟨c6, iS6, hKn6⟩ := u_known (C := RX6) (T := TX6) (N := 8) (n := 8) hts us_6 (hts (.instantiable RX6 8) wi_6)
  obtain ⟨c7, iS7, hKn7⟩ := u_known (C := RX7) (T := TX7) (N := 21) (n := 21) hts us_7 (hts (.instantiable RX7 21) wi_7)
  obtain ⟨dC, dI, hKc⟩ : ∃ (dC : Nat → ClassId) (dI : Nat → Nat → Nat), ∀ (k : Nat) (q : vw_C), vwCl[k]? = some q → u_Kn s q.1 q.2.1 q.2.2 (dC k) (dI k) := by
    refine ⟨fun k => if k = 0 then c0 else if k = 1 then c1 else if k = 2 then c2 else if k = 3 then c3 else if k = 4 then c4 else if k = 5 then c5 else if k = 6 then c6 else c7, fun k => if k = 0 then iS0 else if k = 1 then iS1 else if k = 2 then iS2 else if k = 3 then iS3 else if k = 4 then iS4 else if k = 5 then iS5 else if k = 6 then iS6 else iS7, ?_⟩
    intro k q hq
    match k, hq with
    | 0, hq => cases hq; exact hKn0
    | 1, hq => cases hq; exact hKn1
    | 2, hq => cases hq; exact hKn2
    | 3, hq => cases hq; exact hKn3
    | 4, hq => cases hq; exact hKn4
    | 5, hq => cases hq; exact hKn5
    | 6, hq => cases hq; exact hKn6
    | 7, hq => cases hq; exact hKn7
    | k + 8, hq => simp [vwCl] at hq
  obtain ⟨cI, kI, pI, i1, i2, i3⟩ := Cond.arrayClass_spec (hts (.arrayClass .int) wa_int)
  obtain ⟨cJ, kJ, pJ, j1, j2, j3⟩ := Cond.arrayClass_spec (hts (.arrayClass .long) wa_long)
  obtain ⟨cB, kB, pB, b1, b2, b3⟩ := Cond.arrayClass_spec (hts (.arrayClass .boolean) wa_boolean)
  have hao : va_AO "KeptSeats$Office" s := va_AO.of (hts0 _ (List.mem_append_right _ (List.mem_of_getElem? (i := 42) (by decide +kernel))))
  obtain ⟨pO, cO, kO, o1, -, o2, o3, o4⟩ := Cond.arrayOver_spec (va_AO.use (A := #[]) hao)
  have hK : va_K (dC, dI) vwCl [(cI, .int), (cJ, .long), (cB, .boolean), (cO, .object "KeptSeats$Office")] s := by
    refine ⟨hKc, fun k q hq => ?_⟩
    match k, hq with
    | 0, hq => cases hq; exact ⟨fun n z => ⟨fun k h => (by cases h), kI, i2, pI, i3⟩, i1⟩
    | 1, hq => cases hq; exact ⟨fun n z => ⟨fun k h => (by cases h), kJ, j2, pJ, j3⟩, j1⟩
    | 2, hq => cases hq; exact ⟨fun n z => ⟨fun k h => (by cases h), kB, b2, pB, b3⟩, b1⟩
    | 3, hq => cases hq; exact ⟨fun n z => ⟨fun k h => (by cases h), kO, o2, pO, o3⟩, ⟨kO, pO, o2, o3, o1, o4⟩⟩
    | k + 4, hq => simp at hq
  have hnw : NW2 s := ⟨nest_w hts0 56 (by decide +kernel) rfl, nest_w hts0 75 (by decide +kernel) rfl, nest_w hts0 127 (by decide +kernel) rfl, hao, nest_w hts0 290 (by decide +kernel) rfl, nest_w hts0 393 (by decide +kernel) rfl⟩
  have key := law_start (Z := (l, (dC, dI), (cI, cJ, cB, cO), s.heap.size)) (X := (p, e, room_1, s, m, #[Value.ref b], below, meth, c, lw_Z below #[Value.ref b] s, 121, 11544)) (b := b) (L := L) (xs := xs)
    ⟨⟨hx, hb, hml, hown, hts, hK, rfl, Nat.le_of_ble_eq_true rfl, Nat.le_of_ble_eq_true rfl, Nat.le_refl _, hnw.2.2.2.2⟩, hnw⟩ ⟨hXs, hbl, rfl, rfl, rfl, Nat.le_of_ble_eq_true rfl, Nat.le_of_ble_eq_true rfl, hr, hlocks⟩ rfl rfl (PURE L xs hL)
  rw [lg_entry_eq]
  exact key s.heap [] _ (fun k q h => by simp [wls] at h) va_S.rf (hasL_entry rfl (Nat.le_of_ble_eq_true rfl) rfl)
