/-! PURE PART: calls that change the office -/
theorem i10 {α : Type} {A B : α} : (if (1 : Int32) = 0 then A else B) = B := if_neg (by decide)
theorem i00 {α : Type} {A B : α} : (if (0 : Int32) = 0 then A else B) = A := if_pos rfl
def EQ2 (x : Option (Int32 × CM)) (y : Option (Int32 × MM)) : Prop := ∃ r cm' mm', x = some (r, cm') ∧ y = some (r, mm') ∧ INV cm' mm'
theorem EQ2.k {cm : CM} {mm : MM} (h : INV cm mm) (r : Int32) : EQ2 (some (r, cm)) (some (r, mm)) := ⟨r, cm, mm, rfl, rfl, h⟩
theorem wtn (x B : Int32) {b : Nat} (hB : B = nI b) (hb : b < 2 ^ 31) : (∃ j, j ≤ b ∧ x = nI j ∧ f_X6_isWithin x B = some 1 ∧ f_X7_within x 0 B = some 1) ∨ ((∀ j, j ≤ b → ¬ x = nI j) ∧ f_X6_isWithin x B = some 0 ∧ f_X7_within x 0 B = some 0) := by
  subst hB
  rcases owithin x hb with ⟨j, h1, h2, h3⟩ | ⟨h1, h2⟩
  · exact Or.inl ⟨j, h1, h2, h3, h3⟩
  · exact Or.inr ⟨h1, h2, h2⟩
theorem kdn (x : Int32) : (∃ j, j < 4 ∧ x = nI j ∧ f_X6_isKind x = some 1 ∧ f_X7_isKind x = some 1) ∨ ((∀ j, j < 4 → ¬ x = nI j) ∧ f_X6_isKind x = some 0 ∧ f_X7_isKind x = some 0) := by
  unfold f_X6_isKind f_X7_isKind
  rcases wtn x 3 (b := 3) rfl (by decide) with ⟨j, h1, h2, h3, h4⟩ | ⟨h1, h2, h3⟩
  · exact Or.inl ⟨j, by omega, h2, by rw [h3]; rfl, by rw [h4]; rfl⟩
  · exact Or.inr ⟨fun j hj => h1 j (by omega), by rw [h2]; rfl, by rw [h3]; rfl⟩
theorem prsn {cm : CM} {mm : MM} {n : Nat} (hl : lay (cm 1 1) (mm 1)) (hV : VM (mm 1) n) (x : Int32) : (∃ p, p < n ∧ x = nI p ∧ f_X6_isPerson cm x = some 1 ∧ f_X7_isPerson mm x = some 1) ∨ ((∀ p, p < n → ¬ x = nI p) ∧ f_X6_isPerson cm x = some 0 ∧ f_X7_isPerson mm x = some 0) := by
  have hn := hV.2.1
  unfold f_X6_isPerson f_X7_isPerson
  rw [opeople, ly_158 hl, rd_157, hV.1, Option.bind_some, Option.bind_some]
  cases n with
  | zero =>
    refine Or.inr ⟨fun p hp => by omega, ?_, ?_⟩
    · unfold f_X6_isWithin
      by_cases h : x < 0
      · rw [if_pos h]; rfl
      · rw [if_neg h, if_pos (by
          rw [Int32.lt_iff_toInt_lt] at h ⊢
          rw [show (nI 0 - 1).toInt = -1 by decide]
          rw [show (0 : Int32).toInt = 0 by decide] at h
          omega)]; rfl
    · unfold f_X7_within
      by_cases h : x < 0
      · rw [if_pos h]; rfl
      · rw [if_neg h, if_pos (by
          rw [Int32.lt_iff_toInt_lt] at h ⊢
          rw [show (nI 0 - 1).toInt = -1 by decide]
          rw [show (0 : Int32).toInt = 0 by decide] at h
          omega)]; rfl
  | succ n =>
    rw [nI_pred]
    rcases wtn x (nI n) (b := n) rfl (by omega) with ⟨j, h1, h2, h3, h4⟩ | ⟨h1, h2, h3⟩
    · exact Or.inl ⟨j, by omega, h2, by rw [h3]; rfl, by rw [h4]; rfl⟩
    · exact Or.inr ⟨fun p hp => h1 p (by omega), by rw [h2]; rfl, by rw [h3]; rfl⟩
/-- only one person's cells differ -/
theorem VM.pp {m m' : Nat → Int32} {n p : Nat} (h : VM m n) (hp : p < 16) (hm : ∀ i, i < 159 → ¬ (8 * p ≤ i ∧ i < 8 * p + 8) → m' i = m i) (hv : p < n → VP m' p) : VM m' n := by
  obtain ⟨v1, v2, v3, v4, v5, v6⟩ := h
  have hi : ∀ i, 128 ≤ i → i < 159 → m' i = m i := fun i h1 h2 => hm i h2 (by omega)
  refine ⟨by rw [hi _ (by omega) (by omega)]; exact v1, v2, fun q hq => ?_, ⟨fun k hk => ?_, fun i hi' => ?_⟩, ⟨?_, fun k hk => ?_⟩, ⟨fun i hi' => ?_, fun k hk => ?_, fun i j hi' hj => ?_⟩⟩
  · by_cases e : q = p
    · subst e; exact hv hq
    · have := v3 q hq
      unfold VP at this ⊢
      rw [hm _ (by omega) (by omega), hm _ (by omega) (by omega), hm _ (by omega) (by omega), hm _ (by omega) (by omega), hm _ (by omega) (by omega), hm _ (by omega) (by omega), hm _ (by omega) (by omega)]
      exact this
  · rw [hi _ (by omega) (by omega)]; exact v4.1 k hk
  · rw [hi _ (by omega) (by omega)]; exact v4.2 i hi'
  · rw [hi _ (by omega) (by omega)]; exact v5.1
  · rw [hi _ (by omega) (by omega)]; exact v5.2 k hk
  · rw [hi _ (by omega) (by omega)]; exact v6.1 i hi'
  · obtain ⟨i, hi', e⟩ := v6.2.1 k hk
    exact ⟨i, hi', by rw [hi _ (by omega) (by omega)]; exact e⟩
  · rw [hi _ (by omega) (by omega), hi _ (by omega) (by omega)]; exact v6.2.2 i j hi' hj
/-- no person's cell differs, nor their number -/
theorem VM.hi {m m' : Nat → Int32} {n : Nat} (h : VM m n) (hm : ∀ i, i < 128 ∨ i = 157 → m' i = m i) (h1 : okSM m') (h2 : okH m') (h3 : okOr m') : VM m' n := by
  obtain ⟨v1, v2, v3, v4, v5, v6⟩ := h
  refine ⟨by rw [hm _ (by omega)]; exact v1, v2, fun q hq => ?_, h1, h2, h3⟩
  have := v3 q hq
  unfold VP at this ⊢
  rw [hm _ (by omega), hm _ (by omega), hm _ (by omega), hm _ (by omega), hm _ (by omega), hm _ (by omega), hm _ (by omega)]
  exact this
theorem okOr_cg {m m' : Nat → Int32} (h : okOr m) (hm : ∀ i, 152 ≤ i → i < 156 → m' i = m i) : okOr m' := by
  obtain ⟨a, b, c⟩ := h
  refine ⟨fun i hi => by rw [hm _ (by omega) (by omega)]; exact a i hi, fun k hk => ?_, fun i j hi hj => by rw [hm _ (by omega) (by omega), hm _ (by omega) (by omega)]; exact c i j hi hj⟩
  obtain ⟨i, hi, e⟩ := b k hk
  exact ⟨i, hi, by rw [hm _ (by omega) (by omega)]; exact e⟩
theorem okH_cg {m m' : Nat → Int32} (h : okH m) (hm : ∀ i, 148 ≤ i → i < 152 → m' i = m i) : okH m' := ⟨by rw [hm _ (by omega) (by omega)]; exact h.1, fun k hk => by rw [hm _ (by omega) (by omega)]; exact h.2 k hk⟩
theorem okSM_cg {m m' : Nat → Int32} (h : okSM m) (hm : ∀ i, 128 ≤ i → i < 148 → m' i = m i) : okSM m' := ⟨fun k hk => by rw [hm _ (by omega) (by omega)]; exact h.1 k hk, fun k hk => by rw [hm _ (by omega) (by omega)]; exact h.2 k hk⟩
theorem change_2 {cm : CM} {mm : MM} {a1 a2 v x : Int32} {j : Nat} (h : INV cm mm) (hj : j < 159) (h1 : a1 + a2 = nI j) (h2 : x = nI (mi j)) (hV : ∀ n, VM (mm 1) n → ∃ n', VM (upd (mm 1) (mi j) v) n') : ∃ r cm' mm', f_X6_change cm a1 a2 v = some (r, cm') ∧ f_X7_changes mm x v = some (r, mm') ∧ INV cm' mm' := by
  obtain ⟨n, l, V, R, -⟩ := h
  obtain ⟨cm1, mm1, b1, b2, b3, b4, b5, b6⟩ := keep_2 l V R
  obtain ⟨n', hV'⟩ := hV n V
  have hmj := mi_lt hj
  refine ⟨cm 1 1 j, u3 cm1 1 1 (upd (cm1 1 1) j v), u2 mm1 1 (upd (mm1 1) (mi j) v), ?_, ?_, act_end (n := n') b3 b6 (fun o h1 _ => u3_o h1) (u2_n _ _ (by decide)) (u2_n _ _ (by decide)) ?_ ?_⟩
  · unfold f_X6_change
    rw [b1, Option.bind_some, oget h1 hj, Option.bind_some, oset h1 hj, Option.bind_some, b4]
  · unfold f_X7_changes
    rw [b2, Option.bind_some, h2, rd_nI _ hmj (by omega), Option.bind_some, wr_nI _ _ hmj (by omega), Option.bind_some, b5, l j hj]
  · rw [u3_s, u2_s, b4, b5]; exact lay_upd l hj v
  · rw [u2_s, b5]; exact hV'
theorem person_2 {cm : CM} {mm : MM} {part fld most : Int32} {f b : Nat} (h : INV cm mm) (hf : f < 5) (hp : part = nI (16 * f)) (hfl : fld = nI f) (hm : most = nI b) (hb : b < 2 ^ 20) (hvp : ∀ m p v, v ≤ b → VP m p → VP (upd m (8 * p + f) (nI v)) p) (a1 a2 : Int32) : EQ2 (f_X6_changePerson cm part a1 a2 most) (f_X7_personal mm a1 fld a2 most) := by
  have h' := h
  obtain ⟨n, l, V, R, -⟩ := h
  have hn := V.2.1
  unfold f_X6_changePerson f_X7_personal
  rcases prsn l V a1 with ⟨p, hpn, rfl, q1, q2⟩ | ⟨-, q1, q2⟩
  · rw [q1, q2, Option.bind_some, Option.bind_some, i10, i10]
    rcases wtn a2 most hm (by omega) with ⟨v, hv, rfl, w1, w2⟩ | ⟨-, w1, w2⟩
    · rw [w1, w2, Option.bind_some, Option.bind_some, i10, i10]
      obtain ⟨r, cm', mm', d1, d2, d3⟩ := change_2 (cm := cm) (mm := mm) (a1 := part) (a2 := nI p) (v := nI v) (x := 8 * nI p + fld) (j := 16 * f + p) h' (by omega) (by rw [hp, nI_add]) (by rw [hfl, show (8 : Int32) = nI 8 from rfl, pk_mul, nI_add, mi_p (by omega) (by omega)]) (fun k hV => ⟨k, by
        rw [mi_p (by omega) (by omega)]
        exact hV.pp (p := p) (by omega) (fun i hi hne => upd_n _ _ (by omega)) (fun hk => hvp _ p v hv (hV.2.2.1 p hk))⟩)
      rw [d1, d2, Option.bind_some, Option.bind_some]
      exact ⟨r, cm', mm', rfl, rfl, d3⟩
    · rw [w1, w2, Option.bind_some, Option.bind_some, i00, i00]
      exact EQ2.k h' _
  · rw [q1, q2, Option.bind_some, Option.bind_some, i00, i00]
    exact EQ2.k h' _
theorem EQ2.r {x : Option (Int32 × CM)} {y : Option (Int32 × MM)} (h : EQ2 x y) : EQ2 (x.bind fun r => some (r.1, r.2)) (y.bind fun r => some (r.1, r.2)) := by
  obtain ⟨r, cm', mm', rfl, rfl, h⟩ := h
  exact ⟨r, cm', mm', rfl, rfl, h⟩
theorem VP_u {m : Nat → Int32} {p f : Nat} {v : Int32} (h : VP m p) (h0 : f = 0 → isN v 99) (h1 : f = 1 → isN v 999) (h2 : f = 2 → isN v 3) (h3 : f = 3 → isN v 15) (h4 : f = 4 → isN v 4) (h5 : f = 5 → oN v 4) (h6 : f = 6 → oN v 4) : VP (upd m (8 * p + f) v) p := by
  obtain ⟨a0, a1, a2, a3, a4, a5, a6⟩ := h
  have g : ∀ (P : Int32 → Prop) i, i < 8 → P (m (8 * p + i)) → (f = i → P v) → P (upd m (8 * p + f) v (8 * p + i)) := by
    intro P i hi q1 q2
    by_cases e : i = f
    · subst e; rw [upd_s]; exact q2 rfl
    · rw [upd_n _ _ (by omega)]; exact q1
  exact ⟨g (fun x => isN x 99) 0 (by omega) a0 h0, g (fun x => isN x 999) 1 (by omega) a1 h1, g (fun x => isN x 3) 2 (by omega) a2 h2, g (fun x => isN x 15) 3 (by omega) a3 h3, g (fun x => isN x 4) 4 (by omega) a4 h4, g (fun x => oN x 4) 5 (by omega) a5 h5, g (fun x => oN x 4) 6 (by omega) a6 h6⟩
theorem op_mark {cm : CM} {mm : MM} (h : INV cm mm) (a1 a2 : Int32) : EQ2 (f_X6_mark cm a1 a2) (f_X7_mark mm a1 a2) :=
  (person_2 (f := 0) (b := 99) h (by omega) rfl rfl rfl (by omega) (fun m p v hv q => VP_u q (fun _ => ⟨v, hv, rfl⟩) (by omega) (by omega) (by omega) (by omega) (by omega) (by omega)) a1 a2).r
theorem op_ticket {cm : CM} {mm : MM} (h : INV cm mm) (a1 a2 : Int32) : EQ2 (f_X6_ticket cm a1 a2) (f_X7_ticket mm a1 a2) :=
  (person_2 (f := 1) (b := 999) h (by omega) rfl rfl rfl (by omega) (fun m p v hv q => VP_u q (by omega) (fun _ => ⟨v, hv, rfl⟩) (by omega) (by omega) (by omega) (by omega) (by omega)) a1 a2).r
theorem op_kind {cm : CM} {mm : MM} (h : INV cm mm) (a1 a2 : Int32) : EQ2 (f_X6_kind cm a1 a2) (f_X7_kind mm a1 a2) :=
  (person_2 (f := 2) (b := 3) h (by omega) rfl rfl rfl (by omega) (fun m p v hv q => VP_u q (by omega) (by omega) (fun _ => ⟨v, hv, rfl⟩) (by omega) (by omega) (by omega) (by omega)) a1 a2).r
theorem op_groups {cm : CM} {mm : MM} (h : INV cm mm) (a1 a2 : Int32) : EQ2 (f_X6_groups cm a1 a2) (f_X7_groups mm a1 a2) :=
  (person_2 (f := 3) (b := 15) h (by omega) rfl rfl rfl (by omega) (fun m p v hv q => VP_u q (by omega) (by omega) (by omega) (fun _ => ⟨v, hv, rfl⟩) (by omega) (by omega) (by omega)) a1 a2).r
theorem op_seats {cm : CM} {mm : MM} (h : INV cm mm) (a1 a2 : Int32) : EQ2 (f_X6_seats cm a1 a2) (f_X7_seats mm a1 a2) := by
  unfold f_X6_seats f_X7_seats
  rcases kdn a1 with ⟨k, hk, rfl, q1, q2⟩ | ⟨-, q1, q2⟩
  · rw [q1, q2, Option.bind_some, Option.bind_some, i10, i10]
    rcases wtn a2 9 (b := 9) rfl (by omega) with ⟨v, hv, rfl, w1, w2⟩ | ⟨-, w1, w2⟩
    · rw [w1, w2, Option.bind_some, Option.bind_some, i10, i10]
      obtain ⟨r, cm', mm', d1, d2, d3⟩ := change_2 (cm := cm) (mm := mm) (a1 := 128) (a2 := nI k) (v := nI v) (x := 128 + nI k) (j := 128 + k) h (by omega) (nI_add 128 k) (by rw [mi_hi (by omega) (by omega)]; exact nI_add 128 k) (fun n hV => ⟨n, by
        rw [mi_hi (by omega) (by omega)]
        refine hV.hi (fun i hi => upd_n _ _ (by omega)) ⟨fun j hj => ?_, fun i hi => ?_⟩ (okH_cg hV.2.2.2.2.1 (fun i _ _ => upd_n _ _ (by omega))) (okOr_cg hV.2.2.2.2.2 (fun i _ _ => upd_n _ _ (by omega)))
        · by_cases e : j = k
          · subst e; rw [upd_s]; exact ⟨v, hv, rfl⟩
          · rw [upd_n _ _ (by omega)]; exact hV.2.2.2.1.1 j hj
        · rw [upd_n _ _ (by omega)]; exact hV.2.2.2.1.2 i hi⟩)
      rw [d1, d2, Option.bind_some, Option.bind_some]
      exact ⟨r, cm', mm', rfl, rfl, d3⟩
    · rw [w1, w2, Option.bind_some, Option.bind_some, i00, i00]
      exact EQ2.k h _
  · rw [q1, q2, Option.bind_some, Option.bind_some, i00, i00]
    exact EQ2.k h _
theorem gdn (x : Int32) : (∃ j, j < 4 ∧ x = nI j ∧ f_X6_isGroup x = some 1 ∧ f_X7_within x 0 3 = some 1) ∨ ((∀ j, j < 4 → ¬ x = nI j) ∧ f_X6_isGroup x = some 0 ∧ f_X7_within x 0 3 = some 0) := by
  unfold f_X6_isGroup
  rcases wtn x 3 (b := 3) rfl (by decide) with ⟨j, h1, h2, h3, h4⟩ | ⟨h1, h2, h3⟩
  · exact Or.inl ⟨j, by omega, h2, by rw [h3]; rfl, h4⟩
  · exact Or.inr ⟨fun j hj => h1 j (by omega), by rw [h2]; rfl, h3⟩
theorem op_reserve {cm : CM} {mm : MM} (h : INV cm mm) (a1 a2 a3 : Int32) : EQ2 (f_X6_reserve cm a1 a2 a3) (f_X7_reserve mm a1 a2 a3) := by
  unfold f_X6_reserve f_X7_reserve
  rcases kdn a1 with ⟨k, hk, rfl, q1, q2⟩ | ⟨-, q1, q2⟩
  · rw [q1, q2, Option.bind_some, Option.bind_some, i10, i10]
    rcases gdn a2 with ⟨g, hg, rfl, u1, u2⟩ | ⟨-, u1, u2⟩
    · rw [u1, u2, Option.bind_some, Option.bind_some, i10, i10]
      rcases wtn a3 5 (b := 5) rfl (by omega) with ⟨v, hv, rfl, w1, w2⟩ | ⟨-, w1, w2⟩
      · rw [w1, w2, Option.bind_some, Option.bind_some, i10, i10]
        obtain ⟨r, cm', mm', d1, d2, d3⟩ := change_2 (cm := cm) (mm := mm) (a1 := 132) (a2 := nI k * 4 + nI g) (v := nI v) (x := 132 + 4 * nI k + nI g) (j := 132 + (4 * k + g)) h (by omega) (by rw [show (4 : Int32) = nI 4 from rfl, pk_mul, nI_add, Nat.mul_comm]; exact nI_add 132 _) (by rw [mi_hi (by omega) (by omega), show (4 : Int32) = nI 4 from rfl, pk_mul, show (132 : Int32) = nI 132 from rfl, nI_add, nI_add, Nat.add_assoc]) (fun n hV => ⟨n, by
          rw [mi_hi (by omega) (by omega)]
          refine hV.hi (fun i hi => upd_n _ _ (by omega)) ⟨fun j hj => ?_, fun i hi => ?_⟩ (okH_cg hV.2.2.2.2.1 (fun i _ _ => upd_n _ _ (by omega))) (okOr_cg hV.2.2.2.2.2 (fun i _ _ => upd_n _ _ (by omega)))
          · rw [upd_n _ _ (by omega)]; exact hV.2.2.2.1.1 j hj
          · by_cases e : i = 4 * k + g
            · subst e; rw [upd_s]; exact ⟨v, hv, rfl⟩
            · rw [upd_n _ _ (by omega)]; exact hV.2.2.2.1.2 i hi⟩)
        rw [d1, d2, Option.bind_some, Option.bind_some]
        exact ⟨r, cm', mm', rfl, rfl, d3⟩
      · rw [w1, w2, Option.bind_some, Option.bind_some, i00, i00]
        exact EQ2.k h _
    · rw [u1, u2, Option.bind_some, Option.bind_some, i00, i00]
      exact EQ2.k h _
  · rw [q1, q2, Option.bind_some, Option.bind_some, i00, i00]
    exact EQ2.k h _
theorem op_manner {cm : CM} {mm : MM} (h : INV cm mm) (a1 : Int32) : EQ2 (f_X6_manner cm a1) (f_X7_manner mm a1) := by
  unfold f_X6_manner f_X7_manner
  rcases wtn a1 2 (b := 2) rfl (by omega) with ⟨v, hv, rfl, w1, w2⟩ | ⟨-, w1, w2⟩
  · rw [w1, w2, Option.bind_some, Option.bind_some, i10, i10]
    obtain ⟨r, cm', mm', d1, d2, d3⟩ := change_2 (cm := cm) (mm := mm) (a1 := 156) (a2 := 0) (v := nI v) (x := 156) (j := 156) h (by omega) (by decide) (by rw [mi_hi (by omega) (by omega)]; rfl) (fun n hV => ⟨n, by
      rw [mi_hi (by omega) (by omega)]
      exact hV.hi (fun i hi => upd_n _ _ (by omega)) (okSM_cg hV.2.2.2.1 (fun i _ _ => upd_n _ _ (by omega))) (okH_cg hV.2.2.2.2.1 (fun i _ _ => upd_n _ _ (by omega))) (okOr_cg hV.2.2.2.2.2 (fun i _ _ => upd_n _ _ (by omega)))⟩)
    rw [d1, d2, Option.bind_some, Option.bind_some]
    exact ⟨r, cm', mm', rfl, rfl, d3⟩
  · rw [w1, w2, Option.bind_some, Option.bind_some, i00, i00]
    exact EQ2.k h _
theorem heir_1 {cm : CM} {mm : MM} {k : Nat} {v : Int32} (h : INV cm mm) (hk : k < 4) (h0 : k ≠ 0) (hv : oN v 4) : EQ2 ((f_X6_change cm 148 (nI k) v).bind fun r32 => some (r32.1, r32.2)) ((f_X7_changes mm (148 + nI k) v).bind fun r31 => some (r31.1, r31.2)) := by
  obtain ⟨r, cm', mm', d1, d2, d3⟩ := change_2 (cm := cm) (mm := mm) (a1 := 148) (a2 := nI k) (v := v) (x := 148 + nI k) (j := 148 + k) h (by omega) (nI_add 148 k) (by rw [mi_hi (by omega) (by omega)]; exact nI_add 148 k) (fun n hV => ⟨n, by
    rw [mi_hi (by omega) (by omega)]
    refine hV.hi (fun i hi => upd_n _ _ (by omega)) (okSM_cg hV.2.2.2.1 (fun i _ _ => upd_n _ _ (by omega))) ⟨?_, fun j hj => ?_⟩ (okOr_cg hV.2.2.2.2.2 (fun i _ _ => upd_n _ _ (by omega)))
    · rw [upd_n _ _ (by omega)]; exact hV.2.2.2.2.1.1
    · by_cases e : j = k
      · subst e; rw [upd_s]; exact hv
      · rw [upd_n _ _ (by omega)]; exact hV.2.2.2.2.1.2 j hj⟩)
  rw [d1, d2, Option.bind_some, Option.bind_some]
  exact ⟨r, cm', mm', rfl, rfl, d3⟩
theorem op_heir {cm : CM} {mm : MM} (h : INV cm mm) (a1 a2 : Int32) : EQ2 (f_X6_heir cm a1 a2) (f_X7_heir mm a1 a2) := by
  unfold f_X6_heir f_X7_heir
  rcases kdn a1 with ⟨k, hk, rfl, q1, q2⟩ | ⟨q0, q1, q2⟩
  · rw [q1, Option.bind_some, i10]
    by_cases h0 : k = 0
    · subst h0
      rw [if_pos (show nI 0 = 0 from rfl), show f_X7_within (nI 0) 1 3 = some 0 by decide, Option.bind_some, if_pos rfl]
      exact EQ2.k h _
    · have hw : f_X7_within (nI k) 1 3 = some 1 := by
        rcases mwithin (nI k) (a := 1) (b := 3) (by omega) (by omega) with ⟨j, -, -, -, w⟩ | ⟨w, -⟩
        · exact w
        · exact absurd rfl (w k (by omega) (by omega))
      rw [if_neg (show ¬ nI k = 0 from nI_ne0 (by omega) (by omega)), hw, Option.bind_some, if_neg (show ¬ (1 : Int32) = 0 by decide)]
      rcases kdn a2 with ⟨v, hv, rfl, w1, w2⟩ | ⟨-, w1, w2⟩
      · rw [w1, w2, Option.bind_some, Option.bind_some, i10, i10]
        exact heir_1 h hk h0 (Or.inr ⟨v, hv, rfl⟩)
      · rw [w1, w2, Option.bind_some, Option.bind_some, i00, i00]
        by_cases e : a2 = -9
        · rw [if_pos e, if_pos e]
          exact heir_1 h hk h0 (Or.inl e)
        · rw [if_neg e, if_neg e]
          exact EQ2.k h _
  · have hw : f_X7_within a1 1 3 = some 0 := by
      rcases mwithin a1 (a := 1) (b := 3) (by omega) (by omega) with ⟨j, -, j2, e, -⟩ | ⟨-, w⟩
      · exact absurd e (q0 j (by omega))
      · exact w
    rw [q1, hw, Option.bind_some, Option.bind_some, i00, i00]
    exact EQ2.k h _
theorem ord_d0 : ∀ a, a < 4 → ∀ b, b < 4 → ∀ c, c < 4 → ∀ d, d < 4 → (!decide (((((1 <<< (nI a &&& 31)) ||| (1 <<< (nI b &&& 31))) ||| (1 <<< (nI c &&& 31))) ||| (1 <<< (nI d &&& 31))) = (15 : Int32)) || (decide (a ≠ b) && decide (a ≠ c) && decide (a ≠ d) && decide (b ≠ c) && decide (b ≠ d) && decide (c ≠ d))) = true := by decide +kernel
theorem ord_d (a : Nat) (ha : a < 4) (b : Nat) (hb : b < 4) (c : Nat) (hc : c < 4) (d : Nat) (hd : d < 4) (h : ((((1 <<< (nI a &&& 31)) ||| (1 <<< (nI b &&& 31))) ||| (1 <<< (nI c &&& 31))) ||| (1 <<< (nI d &&& 31))) = (15 : Int32)) : (a ≠ b ∧ a ≠ c ∧ a ≠ d) ∧ (b ≠ c ∧ b ≠ d) ∧ c ≠ d := by
  have := ord_d0 a ha b hb c hc d hd
  rw [decide_eq_true h] at this
  simp only [Bool.not_true, Bool.false_or, Bool.and_eq_true, decide_eq_true_eq] at this
  obtain ⟨⟨⟨⟨⟨h1, h2⟩, h3⟩, h4⟩, h5⟩, h6⟩ := this
  exact ⟨⟨h1, h2, h3⟩, ⟨h4, h5⟩, h6⟩
theorem u3_u3 (cm : CM) (o p : Nat) (f g : Nat → Int32) : u3 (u3 cm o p f) o p g = u3 cm o p g := by
  rw [u3_pC, u3_pC, u3_pC, pC_s, pC_pC, u2_u2]
theorem or4 {m : Nat → Int32} {a b c d : Nat} (ha : a < 4) (hb : b < 4) (hc : c < 4) (hd : d < 4) (h : (a ≠ b ∧ a ≠ c ∧ a ≠ d) ∧ (b ≠ c ∧ b ≠ d) ∧ c ≠ d) (e0 : m 152 = nI a) (e1 : m 153 = nI b) (e2 : m 154 = nI c) (e3 : m 155 = nI d) : okOr m := by
  obtain ⟨⟨h1, h2, h3⟩, ⟨h4, h5⟩, h6⟩ := h
  have hx : ∀ i, i < 4 → m (152 + i) = nI (if i = 0 then a else if i = 1 then b else if i = 2 then c else d) := by
    intro i hi
    rcases i with _ | _ | _ | _ | i
    · exact e0
    · exact e1
    · exact e2
    · exact e3
    · omega
  refine ⟨fun i hi => ⟨_, ?_, hx i hi⟩, fun k hk => ?_, fun i j hi hj e => ?_⟩
  · split <;> (try split) <;> (try split) <;> omega
  · by_cases x0 : k = a
    · exact ⟨0, by omega, by rw [x0]; exact e0⟩
    · by_cases x1 : k = b
      · exact ⟨1, by omega, by rw [x1]; exact e1⟩
      · by_cases x2 : k = c
        · exact ⟨2, by omega, by rw [x2]; exact e2⟩
        · exact ⟨3, by omega, by rw [show k = d by omega]; exact e3⟩
  · rw [hx i hi, hx j hj] at e
    have := (nI_eq (by split <;> (try split) <;> (try split) <;> omega) (by split <;> (try split) <;> (try split) <;> omega)).mp e
    split at this <;> (try split at this) <;> (try split at this) <;> (try split at this) <;> (try split at this) <;> (try split at this) <;> omega
theorem osetOrder {cm : CM} {o : Nat} {a b c d : Int32} : f_X3_setOrder cm o a b c d = some (u3 cm o 1 (upd (upd (upd (upd (cm o 1) 152 a) 153 b) 154 c) 155 d)) := by
  unfold f_X3_setOrder
  rw [os_152_0, Option.bind_some, os_152_1, Option.bind_some, os_152_2, Option.bind_some, os_152_3, Option.bind_some, u3_s, u3_u3, u3_s, u3_u3, u3_s, u3_u3]
theorem op_order {cm : CM} {mm : MM} (h : INV cm mm) (a1 a2 a3 a4 : Int32) : EQ2 (f_X6_order cm a1 a2 a3 a4) (f_X7_order mm a1 a2 a3 a4) := by
  unfold f_X6_order f_X7_order f_X6_isOrder
  rcases kdn a1 with ⟨k1, hk1, rfl, q1, q2⟩ | ⟨-, q1, q2⟩
  rotate_left
  · rw [q1, q2, Option.bind_some, Option.bind_some, i00, i00, Option.bind_some, i00]
    exact EQ2.k h _
  rw [q1, q2, Option.bind_some, Option.bind_some, i10, i10]
  rcases kdn a2 with ⟨k2, hk2, rfl, q1, q2⟩ | ⟨-, q1, q2⟩
  rotate_left
  · rw [q1, q2, Option.bind_some, Option.bind_some, i00, i00, Option.bind_some, i00]
    exact EQ2.k h _
  rw [q1, q2, Option.bind_some, Option.bind_some, i10, i10]
  rcases kdn a3 with ⟨k3, hk3, rfl, q1, q2⟩ | ⟨-, q1, q2⟩
  rotate_left
  · rw [q1, q2, Option.bind_some, Option.bind_some, i00, i00, Option.bind_some, i00]
    exact EQ2.k h _
  rw [q1, q2, Option.bind_some, Option.bind_some, i10, i10]
  rcases kdn a4 with ⟨k4, hk4, rfl, q1, q2⟩ | ⟨-, q1, q2⟩
  rotate_left
  · rw [q1, q2, Option.bind_some, Option.bind_some, i00, i00, Option.bind_some, i00]
    exact EQ2.k h _
  rw [q1, q2, Option.bind_some, Option.bind_some, i10, i10]
  by_cases hs : ((((1 <<< (nI k1 &&& 31)) ||| (1 <<< (nI k2 &&& 31))) ||| (1 <<< (nI k3 &&& 31))) ||| (1 <<< (nI k4 &&& 31))) = (15 : Int32)
  · rw [if_pos hs, if_pos hs, Option.bind_some, i10]
    have hd := ord_d k1 hk1 k2 hk2 k3 hk3 k4 hk4 hs
    obtain ⟨n, l, V, R, -⟩ := h
    obtain ⟨cm1, mm1, b1, b2, b3, b4, b5, b6⟩ := keep_2 l V R
    refine ⟨1, u3 cm1 1 1 (upd (upd (upd (upd (cm1 1 1) 152 (nI k1)) 153 (nI k2)) 154 (nI k3)) 155 (nI k4)), u2 mm1 1 (upd (upd (upd (upd (mm1 1) 152 (nI k1)) 153 (nI k2)) 154 (nI k3)) 155 (nI k4)), ?_, ?_, act_end (n := n) b3 b6 (fun o h1 _ => u3_o h1) (u2_n _ _ (by decide)) (u2_n _ _ (by decide)) ?_ ?_⟩
    · rw [b1, Option.bind_some, osetOrder, Option.bind_some]
    · rw [b2, Option.bind_some, show (152 : Int32) = nI 152 from rfl, wr_nI _ _ (by omega) (by omega), Option.bind_some, u2_s, show (153 : Int32) = nI 153 from rfl, wr_nI _ _ (by omega) (by omega), Option.bind_some, u2_u2, u2_s, show (154 : Int32) = nI 154 from rfl, wr_nI _ _ (by omega) (by omega), Option.bind_some, u2_u2, u2_s, show (155 : Int32) = nI 155 from rfl, wr_nI _ _ (by omega) (by omega), Option.bind_some, u2_u2]
    · rw [u3_s, u2_s, b4, b5]
      exact lay_upd (j := 155) (lay_upd (j := 154) (lay_upd (j := 153) (lay_upd (j := 152) l (by omega) _) (by omega) _) (by omega) _) (by omega) _
    · rw [u2_s, b5]
      refine V.hi (fun i hi => by rw [upd_n _ _ (by omega), upd_n _ _ (by omega), upd_n _ _ (by omega), upd_n _ _ (by omega)]) (okSM_cg V.2.2.2.1 (fun i _ _ => by rw [upd_n _ _ (by omega), upd_n _ _ (by omega), upd_n _ _ (by omega), upd_n _ _ (by omega)])) (okH_cg V.2.2.2.2.1 (fun i _ _ => by rw [upd_n _ _ (by omega), upd_n _ _ (by omega), upd_n _ _ (by omega), upd_n _ _ (by omega)])) (or4 hk1 hk2 hk3 hk4 hd ?_ ?_ ?_ ?_)
      · rw [upd_n _ _ (by omega), upd_n _ _ (by omega), upd_n _ _ (by omega), upd_s]
      · rw [upd_n _ _ (by omega), upd_n _ _ (by omega), upd_s]
      · rw [upd_n _ _ (by omega), upd_s]
      · rw [upd_s]
  · rw [if_neg hs, if_neg hs, Option.bind_some, i00]
    exact EQ2.k h _
