/-! PURE PART: calls that ask the present choice -/
def RW (n : Nat) (ch mm : MM) : Prop :=
  (∀ p, p < n → ch 10 p = mm 8 p ∧ ch 14 p = mm 10 p ∧ oN (mm 8 p) 4 ∧ (mm 10 p = 0 ∨ mm 10 p = 1) ∧ (bt (ch 0 11) p = true ↔ ¬ mm 8 p = -9)) ∧ ∀ i, n ≤ i → i < 32 → bt (ch 0 11) i = false
theorem RC.w {n : Nat} {ch mm : MM} (h : RC n ch mm) : RW n ch mm := ⟨fun p hp => by
  obtain ⟨r1, -, r3, r4, r5, r6⟩ := h.1 p hp
  exact ⟨r1, r3, r4, r5.1, r6⟩, h.2⟩
theorem CW.out {c m : Nat → Int32} {n : Nat} {ch mm : MM} (h : CW c m n ch mm) : SR c m n (srt (kyM m) n) (frM m n) (fgM m n) ch mm ∧ RW n ch mm ∧ GN n mm ∧ CT n mm ∧ EM n (frM m n) mm := by
  obtain ⟨ch0, ⟨⟨h1, h2, h3, h4⟩, h5⟩, hk⟩ := h
  refine ⟨h1.kp (by rw [hk 0 (by decide)]) (fun q hq => hk q (by simp at hq ⊢; omega)) (fun _ _ => rfl), ?_, h3, h4, h5⟩
  have := h2.w
  unfold RW at this ⊢
  rw [hk 0 (by decide), hk 10 (by decide), hk 14 (by decide)]
  exact this
theorem CHM.w {c m : Nat → Int32} {n : Nat} {ch mm : MM} (h : CHM c m n ch mm) : CW c m n ch mm := ⟨ch, h, keeps.rf _ _⟩
theorem CHM.kp {c m : Nat → Int32} {n : Nat} {ch ch' mm : MM} (h : CHM c m n ch mm) (hk : keeps [18, 20] ch ch') : CHM c m n ch' mm := by
  obtain ⟨⟨h1, h2, h3, h4⟩, h5⟩ := h
  exact ⟨⟨h1.kp (by rw [hk 0 (by decide)]) (fun q hq => hk q (by simp at hq ⊢; omega)) (fun _ _ => rfl), h2.kp (by rw [hk 0 (by decide)]) (fun q hq => hk q (by simp at hq ⊢; omega)) (fun _ _ => rfl), h3, h4⟩, h5⟩
theorem CC.kp {c m : Nat → Int32} {n : Nat} {ch ch' : MM} (h : CC c m n ch) (hk : keeps [18, 20] ch ch') : CC c m n ch' := fun mm0 h0 => by
  obtain ⟨⟨mm1, a1, ⟨ch0, a2, a3⟩, a4⟩, mm2, b1, b2, b3⟩ := h mm0 h0
  exact ⟨⟨mm1, a1, ⟨ch0, a2, a3.tr hk (by decide)⟩, a4⟩, mm2, b1, b2.kp hk, b3⟩
theorem INV.ch {cm : CM} {mm : MM} {ch' : MM} (h : INV cm mm) (hk : keeps [18, 20] (cm 27) ch') : INV (pC cm 27 ch') mm := by
  obtain ⟨n, a1, a2, a3, a4⟩ := h
  refine ⟨n, ?_, a2, a3.kp (fun o _ h => pC_n _ _ (by omega)) rfl rfl rfl, ?_⟩
  · rw [pC_n _ _ (by decide)]; exact a1
  · rw [pC_n (a := 0) _ _ (by decide), pC_n (a := 1) _ _ (by decide), pC_s]
    exact fun q => (a4 q).kp hk
theorem opers' {cm : CM} {C r p : Nat} (hr : r < 16) (h : cm C 2 r &&& 15 = nI p) : f_X0_personAt cm C (nI r) = some (nI p) := by
  have := opers (cm := cm) (C := C) (ch := cm C) hr h
  rwa [pC_self] at this
theorem ohas' {cm : CM} {C p : Nat} (hp : p < 32) : f_X0_has cm C (nI p) = some (if bt (cm C 0 11) p = true then 1 else 0) := by
  have := ohas (cm := cm) (C := C) (ch := cm C) hp
  rwa [pC_self] at this
theorem oisTaken' {cm : CM} {C p : Nat} {x : Int32} (hp : p < 16) : f_X0_isTaken cm C (nI p) x = some (if cm C 10 p = x ∧ cm C 14 p = 0 then 1 else 0) := by
  have := oisTaken (cm := cm) (C := C) (ch := cm C) (x := x) hp
  rwa [pC_self] at this
theorem ocountTaken' {cm : CM} {C n : Nat} {x : Int32} (hn : n ≤ 16) (hc : cm C 0 10 = nI n) : f_X0_countTaken cm C x = some (nI (cntP (fun p => decide (cm C 10 p = x ∧ cm C 14 p = 0)) n)) := by
  have := ocountTaken (cm := cm) (C := C) (ch := cm C) (x := x) hn hc
  rwa [pC_self] at this
/-- both choices of a moment -/
theorem INV.ask {cm : CM} {mm : MM} (h : INV cm mm) : ∃ cm' n mm1 mm2, f_X6_presentChoice cm = some cm' ∧ INV cm' mm ∧ lay (cm' 1 1) (mm 1) ∧ VM (mm 1) n ∧ cm' 1 = cm 1 ∧ (∀ o, 28 ≤ o → cm' o = cm o) ∧ f_X7_choose mm = some mm1 ∧ CW (cm' 1 1) (mm 1) n (cm' 27) mm1 ∧ KM mm mm1 ∧ f_X7_chooseAll mm = some mm2 ∧ CHM (cm' 1 1) (mm 1) n (cm' 27) mm2 ∧ KM mm mm2 := by
  obtain ⟨cm', n, a1, a2, a3, a4, a5, a6, a7⟩ := h.pr
  obtain ⟨⟨mm1, b1, b2, b3⟩, mm2, b4, b5, b6⟩ := a5 mm rfl
  exact ⟨cm', n, mm1, mm2, a1, a2, a3, a4, a6, a7, b1, b2, b3, b4, b5, b6⟩
theorem op_seat {cm : CM} {mm : MM} (h : INV cm mm) (a1 : Int32) : EQ2 (f_X6_seat cm a1) (f_X7_seat mm a1) := by
  obtain ⟨cm', n, mm1, mm2, p1, p2, l, V, p3, p4, c1, c2, c3, d1, d2, d3⟩ := h.ask
  have hn := V.2.1
  unfold f_X6_seat f_X7_seat
  rcases prsn (cm := cm) (by rw [← p3]; exact l) V a1 with ⟨p, hpn, rfl, q1, q2⟩ | ⟨-, q1, q2⟩
  · obtain ⟨s1, s2, -⟩ := c2.out
    rw [q1, q2, Option.bind_some, Option.bind_some, i10, i10, p1, Option.bind_some, c1, Option.bind_some, rd_nI _ (by omega) (by omega), Option.bind_some]
    unfold f_X0_seatOf
    rw [rowget (by omega) (by omega), Option.bind_some, Option.bind_some, (s2.1 p hpn).1]
    exact ⟨_, _, _, rfl, rfl, p2.km c3⟩
  · rw [q1, q2, Option.bind_some, Option.bind_some, i00, i00]
    exact EQ2.k h _
theorem op_counted {cm : CM} {mm : MM} (h : INV cm mm) (a1 : Int32) : EQ2 (f_X6_counted cm a1) (f_X7_counted mm a1) := by
  obtain ⟨cm', n, mm1, mm2, p1, p2, l, V, p3, p4, c1, c2, c3, d1, d2, d3⟩ := h.ask
  have hn := V.2.1
  unfold f_X6_counted f_X7_counted
  rcases prsn (cm := cm) (by rw [← p3]; exact l) V a1 with ⟨p, hpn, rfl, q1, q2⟩ | ⟨-, q1, q2⟩
  · rw [q1, q2, Option.bind_some, Option.bind_some, i10, i10, p1, Option.bind_some, d1, Option.bind_some, rd_nI _ (by omega) (by omega), Option.bind_some]
    unfold f_X0_groupOf
    rw [rowget (by omega) (by omega), Option.bind_some, Option.bind_some, (d2.1.2.1.1 p hpn).2.1]
    exact ⟨_, _, _, rfl, rfl, p2.km d3⟩
  · rw [q1, q2, Option.bind_some, Option.bind_some, i00, i00]
    exact EQ2.k h _
theorem op_handed {cm : CM} {mm : MM} (h : INV cm mm) (a1 : Int32) : EQ2 (f_X6_handed cm a1) (f_X7_handed mm a1) := by
  obtain ⟨cm', n, mm1, mm2, p1, p2, l, V, p3, p4, c1, c2, c3, d1, d2, d3⟩ := h.ask
  have hn := V.2.1
  unfold f_X6_handed f_X7_handed
  rcases prsn (cm := cm) (by rw [← p3]; exact l) V a1 with ⟨p, hpn, rfl, q1, q2⟩ | ⟨-, q1, q2⟩
  · obtain ⟨s1, s2, -⟩ := c2.out
    rw [q1, q2, Option.bind_some, Option.bind_some, i10, i10, p1, Option.bind_some, c1, Option.bind_some, rd_nI _ (by omega) (by omega), Option.bind_some]
    unfold f_X0_handedTo
    obtain ⟨-, r2, -, r4, -⟩ := s2.1 p hpn
    rw [rowget (by omega) (by omega), Option.bind_some, Option.bind_some, r2]
    rcases r4 with r4 | r4
    · rw [r4, if_pos rfl]
      exact ⟨_, _, _, rfl, rfl, p2.km c3⟩
    · rw [r4, if_neg (by decide)]
      exact ⟨_, _, _, rfl, rfl, p2.km c3⟩
  · rw [q1, q2, Option.bind_some, Option.bind_some, i00, i00]
    exact EQ2.k h _
/-- who is taken as number x, counted from cnt, along a list -/
def tkAt (B : Nat → Bool) (x : Int32) : List Nat → Nat → Int32
  | [], _ => -9
  | p :: l, cnt => if B p = true then (if nI cnt = x then nI p else tkAt B x l (cnt + 1)) else tkAt B x l cnt
theorem tkAt_cons (B : Nat → Bool) (x : Int32) (p : Nat) (l : List Nat) (cnt : Nat) : tkAt B x (p :: l) cnt = if B p = true then (if nI cnt = x then nI p else tkAt B x l (cnt + 1)) else tkAt B x l cnt := rfl
theorem otakenAt {cm : CM} {C n k : Nat} {rk : List Nat} {B : Nat → Bool} (x : Int32) (hn : n ≤ 16) (hR : okR rk n) (hc : cm C 0 10 = nI n) (h2 : ∀ r p, rk[r]? = some p → cm C 2 r &&& 15 = nI p) (hB : ∀ p, p < n → ((cm C 10 p = nI k ∧ cm C 14 p = 0) ↔ B p = true)) : f_X0_takenAt cm C (nI k) x = some (tkAt B x rk 0) := by
  have key := itr_inv (step := fun s : Int32 × Int32 => f_X0_takenAt_B5 cm C (nI k) x s.1 s.2) (fun r s => ∃ cnt, cnt ≤ r ∧ s = (nI cnt, nI r) ∧ tkAt B x (rk.drop r) cnt = tkAt B x rk 0) (fun o => oval o = tkAt B x rk 0) n ?_ ?_ 2000 0 (0, 0) (Nat.zero_le _) (by omega) ⟨0, Nat.le_refl _, rfl, by rw [List.drop_zero]⟩
  · obtain ⟨o, i1, i2⟩ := key
    unfold f_X0_takenAt
    rw [i1, Option.bind_some, ← i2]
    cases o <;> rfl
  · rintro r s hr ⟨cnt, hle, rfl, hv⟩
    dsimp only
    obtain ⟨p, hp⟩ : ∃ p, rk[r]? = some p := ⟨rk[r]'(by rw [hR.1]; exact hr), List.getElem?_eq_getElem _⟩
    have hpn : p < n := (hR.2.2 p).mp (List.mem_of_getElem? hp)
    rw [drop_cons hp, tkAt_cons] at hv
    unfold f_X0_takenAt_B5
    rw [hc, ifle (by omega) (by omega), if_neg (by omega), opers' (by omega) (h2 r p hp), Option.bind_some, oisTaken' (by omega), Option.bind_some, if10, nI_1, nI_1]
    by_cases hb : B p = true
    · rw [if_pos hb] at hv
      rw [if_pos ((hB p hpn).mpr hb)]
      by_cases hx : nI cnt = x
      · rw [if_pos hx] at hv ⊢
        exact Or.inr ⟨_, rfl, hv⟩
      · rw [if_neg hx] at hv ⊢
        exact Or.inl ⟨_, rfl, cnt + 1, by omega, rfl, hv⟩
    · rw [if_neg hb] at hv
      rw [if_neg (fun q => hb ((hB p hpn).mp q))]
      exact Or.inl ⟨_, rfl, cnt, by omega, rfl, hv⟩
  · rintro s ⟨cnt, hle, rfl, hv⟩
    dsimp only
    unfold f_X0_takenAt_B5
    rw [hc, ifle (by omega) (by omega), if_pos (by omega)]
    rw [List.drop_eq_nil_of_le (by rw [hR.1]; exact Nat.le_refl _)] at hv
    exact ⟨_, rfl, hv⟩
theorem mtakenAt {r23 : MM} {n k : Nat} {rk : List Nat} {B : Nat → Bool} (x : Int32) (hn : n ≤ 16) (hR : okR rk n) (hc : r23 1 157 = nI n) (h2 : ∀ r p, rk[r]? = some p → r23 3 r = nI p) (hB : ∀ p, p < n → ((r23 8 p = nI k ∧ r23 10 p = 0) ↔ B p = true)) :
    ∃ o, itr (fun s : Int32 × Int32 => f_X7_taken_B31 (nI k) x r23 s.1 s.2) 2000 (0, 0) = some o ∧ ((∃ a, o = .inl a ∧ -9 = tkAt B x rk 0) ∨ o = .inr (tkAt B x rk 0, r23)) := by
  refine itr_inv (step := fun s : Int32 × Int32 => f_X7_taken_B31 (nI k) x r23 s.1 s.2) (fun r s => ∃ cnt, cnt ≤ r ∧ s = (nI cnt, nI r) ∧ tkAt B x (rk.drop r) cnt = tkAt B x rk 0) (fun o => (∃ a, o = .inl a ∧ -9 = tkAt B x rk 0) ∨ o = .inr (tkAt B x rk 0, r23)) n ?_ ?_ 2000 0 (0, 0) (Nat.zero_le _) (by omega) ⟨0, Nat.le_refl _, rfl, by rw [List.drop_zero]⟩
  · rintro r s hr ⟨cnt, hle, rfl, hv⟩
    dsimp only
    obtain ⟨p, hp⟩ : ∃ p, rk[r]? = some p := ⟨rk[r]'(by rw [hR.1]; exact hr), List.getElem?_eq_getElem _⟩
    have hpn : p < n := (hR.2.2 p).mp (List.mem_of_getElem? hp)
    rw [drop_cons hp, tkAt_cons] at hv
    unfold f_X7_taken_B31
    rw [rd_157, Option.bind_some, hc, ifle (by omega) (by omega), if_neg (by omega), rd_nI _ (by omega) (by omega), h2 r p hp, Option.bind_some, misTaken (by omega), Option.bind_some, if10, nI_1, nI_1, Option.bind_some]
    by_cases hb : B p = true
    · rw [if_pos hb] at hv
      rw [if_pos ((hB p hpn).mpr hb)]
      by_cases hx : nI cnt = x
      · rw [if_pos hx] at hv ⊢
        exact Or.inr ⟨_, rfl, Or.inr (by rw [hv])⟩
      · rw [if_neg hx] at hv ⊢
        exact Or.inl ⟨_, rfl, cnt + 1, by omega, rfl, hv⟩
    · rw [if_neg hb] at hv
      rw [if_neg (fun q => hb ((hB p hpn).mp q))]
      exact Or.inl ⟨_, rfl, cnt, by omega, rfl, hv⟩
  · rintro s ⟨cnt, hle, rfl, hv⟩
    dsimp only
    unfold f_X7_taken_B31
    rw [rd_157, Option.bind_some, hc, ifle (by omega) (by omega), if_pos (by omega)]
    rw [List.drop_eq_nil_of_le (by rw [hR.1]; exact Nat.le_refl _)] at hv
    exact ⟨_, rfl, Or.inl ⟨_, rfl, hv⟩⟩
theorem tkB_w {n k : Nat} {ch mm : MM} (hC : RW n ch mm) : ∀ p, p < n → ((ch 10 p = nI k ∧ ch 14 p = 0) ↔ tkB mm k p = true) := by
  intro p hp
  obtain ⟨r1, r3, -⟩ := hC.1 p hp
  unfold tkB
  rw [r1, r3, decide_eq_true_eq]
theorem op_taken {cm : CM} {mm : MM} (h : INV cm mm) (a1 a2 : Int32) : EQ2 (f_X6_taken cm a1 a2) (f_X7_taken mm a1 a2) := by
  obtain ⟨cm', n, mm1, mm2, p1, p2, l, V, p3, p4, c1, c2, c3, d1, d2, d3⟩ := h.ask
  have hn := V.2.1
  unfold f_X6_taken f_X7_taken
  rcases kdn a1 with ⟨k, hk, rfl, q1, q2⟩ | ⟨-, q1, q2⟩
  · rw [q1, q2, Option.bind_some, Option.bind_some, i10, i10]
    rcases wtn a2 8 (b := 8) rfl (by omega) with ⟨v, hv, rfl, w1, w2⟩ | ⟨-, w1, w2⟩
    · obtain ⟨s1, s2, -⟩ := c2.out
      obtain ⟨o, j1, j2⟩ := mtakenAt (r23 := mm1) (k := k) (B := tkB mm1 k) (nI v) hn (okR_srt (kyM (mm 1)) n) (by rw [s1.2.1]; exact V.1) (fun r p hr => (s1.2.2.1 r p hr).2) (fun p _ => tkB_m p)
      rw [w1, w2, Option.bind_some, Option.bind_some, i10, i10, p1, Option.bind_some, c1, Option.bind_some, otakenAt (nI v) hn (okR_srt (kyM (mm 1)) n) s1.1 (fun r p hr => (s1.2.2.1 r p hr).1) (tkB_w s2), Option.bind_some, j1, Option.bind_some]
      rcases j2 with ⟨a, rfl, e⟩ | rfl
      · rw [← e]
        exact ⟨_, _, _, rfl, rfl, p2.km c3⟩
      · exact ⟨_, _, _, rfl, rfl, p2.km c3⟩
    · rw [w1, w2, Option.bind_some, Option.bind_some, i00, i00]
      exact EQ2.k h _
  · rw [q1, q2, Option.bind_some, Option.bind_some, i00, i00]
    exact EQ2.k h _
theorem op_ranked {cm : CM} {mm : MM} (h : INV cm mm) (a1 : Int32) : ∃ r cm', f_X6_ranked cm a1 = some (r, cm') ∧ f_X7_ranked mm a1 = some r ∧ INV cm' mm := by
  obtain ⟨cm', n, mm1, mm2, p1, p2, l, V, p3, p4, c1, c2, c3, d1, d2, d3⟩ := h.ask
  have hn := V.2.1
  have hinj : injK (kyM (mm 1)) n := kyN_inj V.mt hn
  unfold f_X6_ranked f_X7_ranked
  rcases wtn a1 15 (b := 15) rfl (by omega) with ⟨k, hk, rfl, w1, w2⟩ | ⟨-, w1, w2⟩
  · rw [w1, w2, Option.bind_some, Option.bind_some, i10, i10, opeople, ← p3, ly_158 l, V.1, Option.bind_some, ifle (by omega) (by omega)]
    have hlt : ∀ p, p < n → cntP (fun q => decide (kyM (mm 1) q < kyM (mm 1) p)) n < n := by
      intro p hp
      have := (List.getElem?_eq_some_iff.mp (srt_at hinj hp)).1
      rwa [srt_len] at this
    have hm : ∀ V0 : Int32, (∀ p, p < n → cntP (fun q => decide (kyM (mm 1) q < kyM (mm 1) p)) n = k → nI p = V0) → ((∀ p, p < n → ¬ cntP (fun q => decide (kyM (mm 1) q < kyM (mm 1) p)) n = k) → -9 = V0) → ∃ o, itr (fun s : Int32 => f_X7_ranked_B15 mm (nI k) s) 2000 0 = some o ∧ oval o = V0 := by
      intro V0 h1 h2
      refine itr_inv (step := fun s : Int32 => f_X7_ranked_B15 mm (nI k) s) (fun r s => s = nI r ∧ ∀ p, p < r → ¬ cntP (fun q => decide (kyM (mm 1) q < kyM (mm 1) p)) n = k) (fun o => oval o = V0) n ?_ ?_ 2000 0 0 (Nat.zero_le _) (by omega) ⟨rfl, fun p hp => by omega⟩
      · rintro r s hr ⟨rfl, hall⟩
        have hb := hlt r hr
        unfold f_X7_ranked_B15
        rw [rd_157, V.1, Option.bind_some, ifle (by omega) (by omega), if_neg (by omega), maheadOf V.mt V.1 hr hn, Option.bind_some, ifeq (by omega) (by omega)]
        by_cases e : cntP (fun q => decide (kyM (mm 1) q < kyM (mm 1) r)) n = k
        · rw [if_pos e]
          exact Or.inr ⟨_, rfl, h1 r hr e⟩
        · rw [if_neg e, nI_1]
          exact Or.inl ⟨_, rfl, rfl, fun p hp => by
            by_cases e2 : p = r
            · subst e2; exact e
            · exact hall p (by omega)⟩
      · rintro s ⟨rfl, hall⟩
        unfold f_X7_ranked_B15
        rw [rd_157, V.1, Option.bind_some, ifle (by omega) (by omega), if_pos (by omega)]
        exact ⟨_, rfl, h2 hall⟩
    by_cases hkn : n ≤ k
    · obtain ⟨o, j1, j2⟩ := hm (-9) (fun p hp e => by have := hlt p hp; omega) (fun _ => rfl)
      rw [if_pos hkn, j1, Option.bind_some]
      refine ⟨_, _, rfl, ?_, h⟩
      rw [← j2]
      cases o <;> rfl
    · obtain ⟨p, hp⟩ : ∃ p, (srt (kyM (mm 1)) n)[k]? = some p := ⟨(srt (kyM (mm 1)) n)[k]'(by rw [srt_len]; omega), List.getElem?_eq_getElem _⟩
      have hpn : p < n := srt_mem.mp (List.mem_of_getElem? hp)
      obtain ⟨s1, s2, -⟩ := c2.out
      have hj := hm (nI p) ?_ ?_
      · obtain ⟨o, j1, j2⟩ := hj
        rw [if_neg hkn, p1, Option.bind_some, opers' (by omega) (s1.2.2.1 k p hp).1, Option.bind_some, j1, Option.bind_some]
        refine ⟨_, _, rfl, ?_, p2⟩
        rw [← j2]
        cases o <;> rfl
      · intro q hq e
        have := srt_at hinj hq
        rw [e, hp] at this
        rw [Option.some.inj this]
      · intro hall
        have a1 := srt_at hinj hpn
        have a2 := sorted_ix (srt_sorted hinj) hp
        have a3 := sorted_ix (srt_sorted hinj) a1
        exact absurd (a3.symm.trans a2) (hall p hpn)
  · rw [w1, w2, Option.bind_some, Option.bind_some, i00, i00]
    exact ⟨_, _, rfl, rfl, h⟩
