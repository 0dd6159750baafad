/-! PURE PART: the law's loop: the start, one call, all calls -/
theorem start_lay : ∀ i, i < 159 → offI i = nowI (mi i) := by decide +kernel
theorem start_0 : (∀ i, i < 20 → nowI (128 + i) = 0) ∧ (∀ k, k < 4 → nowI (148 + k) = -9) ∧ nowI 152 = 0 ∧ nowI 153 = 1 ∧ nowI 154 = 2 ∧ nowI 155 = 3 ∧ nowI 157 = 0 := by decide +kernel
theorem INV_0 : INV cm0 mm0 := by
  obtain ⟨s1, s2, s3, s4, s5, s6, s7⟩ := start_0
  have e1 : cm0 1 1 = offI := rfl
  have e2 : mm0 1 = nowI := rfl
  refine ⟨0, ?_, ?_, ⟨0, 0, by omega, by omega, rfl, rfl, rfl, rfl, fun d h1 h2 => by omega⟩, fun q => ?_⟩
  · rw [e1, e2]; exact start_lay
  · rw [e2]
    refine ⟨s7, by omega, fun p hp => by omega, ⟨fun k hk => ⟨0, by omega, s1 k (by omega)⟩, fun i hi => ⟨0, by omega, ?_⟩⟩, ⟨s2 0 (by omega), fun k hk => Or.inl (s2 k hk)⟩, or4 (a := 0) (b := 1) (c := 2) (d := 3) (by omega) (by omega) (by omega) (by omega) (by decide) s3 s4 s5 s6⟩
    rw [show 132 + i = 128 + (4 + i) by omega]
    exact s1 (4 + i) (by omega)
  · exact absurd q (by decide)
set_option maxHeartbeats 4000000 in
theorem law_step {L i : Nat} {xs : Nat → Int32} {c : CM} {m : MM} {l : LM} (hL : L ≤ 2560) (hi : 5 * i + 5 ≤ L) (h : INV c m) : ∃ c' m' l', f_L_law_B18 L xs (nI (5 * i)) c m l = some (.inr (nI (5 * (i + 1)), c', m', l')) ∧ INV c' m' := by
  have r0 : rd L xs (nI (5 * i)) = some (xs (5 * i)) := rd_nI _ (by omega) (by omega)
  have r1 : rd L xs (nI (5 * i) + 1) = some (xs (5 * i + 1)) := by rw [nI_1]; exact rd_nI _ (by omega) (by omega)
  have r2 : rd L xs (nI (5 * i) + 2) = some (xs (5 * i + 2)) := by rw [show (2 : Int32) = nI 2 from rfl, nI_add]; exact rd_nI _ (by omega) (by omega)
  have r3 : rd L xs (nI (5 * i) + 3) = some (xs (5 * i + 3)) := by rw [show (3 : Int32) = nI 3 from rfl, nI_add]; exact rd_nI _ (by omega) (by omega)
  have r4 : rd L xs (nI (5 * i) + 4) = some (xs (5 * i + 4)) := by rw [show (4 : Int32) = nI 4 from rfl, nI_add]; exact rd_nI _ (by omega) (by omega)
  have r5 : nI (5 * i) + 5 = nI (5 * (i + 1)) := by rw [show (5 : Int32) = nI 5 from rfl, nI_add]; rfl
  unfold f_L_law_B18
  rw [if_neg (show ¬ Int32.ofNat L - 5 < nI (5 * i) by rw [nI_def, show (5 : Int32) = nI 5 from rfl, pk_sub (by omega)]; exact nI_nlt (by omega) (by omega)), r0, Option.bind_some, r5]
  by_cases h0 : (xs (5 * i) &&& 63) = 0
  · obtain ⟨r, c', m', e1, e2, hI⟩ := op_enter h (xs (5 * i + 1)) (xs (5 * i + 2)) (xs (5 * i + 3)) (xs (5 * i + 4))
    rw [if_pos h0]
    simp only [r1, r2, r3, r4, Option.bind_some, e1, e2, if_true]
    exact ⟨_, _, _, rfl, hI⟩
  rw [if_neg h0]
  by_cases h1 : (xs (5 * i) &&& 63) = 1
  · obtain ⟨r, c', m', e1, e2, hI⟩ := op_mark h (xs (5 * i + 1)) (xs (5 * i + 2))
    rw [if_pos h1]
    simp only [r1, r2, Option.bind_some, e1, e2, if_true]
    exact ⟨_, _, _, rfl, hI⟩
  rw [if_neg h1]
  by_cases h2 : (xs (5 * i) &&& 63) = 2
  · obtain ⟨r, c', m', e1, e2, hI⟩ := op_ticket h (xs (5 * i + 1)) (xs (5 * i + 2))
    rw [if_pos h2]
    simp only [r1, r2, Option.bind_some, e1, e2, if_true]
    exact ⟨_, _, _, rfl, hI⟩
  rw [if_neg h2]
  by_cases h3 : (xs (5 * i) &&& 63) = 3
  · obtain ⟨r, c', m', e1, e2, hI⟩ := op_kind h (xs (5 * i + 1)) (xs (5 * i + 2))
    rw [if_pos h3]
    simp only [r1, r2, Option.bind_some, e1, e2, if_true]
    exact ⟨_, _, _, rfl, hI⟩
  rw [if_neg h3]
  by_cases h4 : (xs (5 * i) &&& 63) = 4
  · obtain ⟨r, c', m', e1, e2, hI⟩ := op_groups h (xs (5 * i + 1)) (xs (5 * i + 2))
    rw [if_pos h4]
    simp only [r1, r2, Option.bind_some, e1, e2, if_true]
    exact ⟨_, _, _, rfl, hI⟩
  rw [if_neg h4]
  by_cases h5 : (xs (5 * i) &&& 63) = 5
  · obtain ⟨r, e1, e2⟩ := op_ofPerson h (xs (5 * i + 1)) (xs (5 * i + 2))
    rw [if_pos h5]
    simp only [r1, r2, Option.bind_some, e1, e2, if_true]
    exact ⟨_, _, _, rfl, h⟩
  rw [if_neg h5]
  by_cases h6 : (xs (5 * i) &&& 63) = 6
  · obtain ⟨r, c', e1, e2, hI⟩ := op_ranked h (xs (5 * i + 1))
    rw [if_pos h6]
    simp only [r1, Option.bind_some, e1, e2, if_true]
    exact ⟨_, _, _, rfl, hI⟩
  rw [if_neg h6]
  by_cases h7 : (xs (5 * i) &&& 63) = 7
  · obtain ⟨r, e1, e2⟩ := op_above h (xs (5 * i + 1))
    rw [if_pos h7]
    simp only [r1, Option.bind_some, e1, e2, if_true]
    exact ⟨_, _, _, rfl, h⟩
  rw [if_neg h7]
  by_cases h8 : (xs (5 * i) &&& 63) = 8
  · obtain ⟨r, e1, e2⟩ := op_alike h (xs (5 * i + 1))
    rw [if_pos h8]
    simp only [r1, Option.bind_some, e1, e2, if_true]
    exact ⟨_, _, _, rfl, h⟩
  rw [if_neg h8]
  by_cases h9 : (xs (5 * i) &&& 63) = 9
  · obtain ⟨r, c', m', e1, e2, hI⟩ := op_seats h (xs (5 * i + 1)) (xs (5 * i + 2))
    rw [if_pos h9]
    simp only [r1, r2, Option.bind_some, e1, e2, if_true]
    exact ⟨_, _, _, rfl, hI⟩
  rw [if_neg h9]
  by_cases h10 : (xs (5 * i) &&& 63) = 10
  · obtain ⟨r, c', m', e1, e2, hI⟩ := op_reserve h (xs (5 * i + 1)) (xs (5 * i + 2)) (xs (5 * i + 3))
    rw [if_pos h10]
    simp only [r1, r2, r3, Option.bind_some, e1, e2, if_true]
    exact ⟨_, _, _, rfl, hI⟩
  rw [if_neg h10]
  by_cases h11 : (xs (5 * i) &&& 63) = 11
  · obtain ⟨r, c', m', e1, e2, hI⟩ := op_heir h (xs (5 * i + 1)) (xs (5 * i + 2))
    rw [if_pos h11]
    simp only [r1, r2, Option.bind_some, e1, e2, if_true]
    exact ⟨_, _, _, rfl, hI⟩
  rw [if_neg h11]
  by_cases h12 : (xs (5 * i) &&& 63) = 12
  · obtain ⟨r, c', m', e1, e2, hI⟩ := op_manner h (xs (5 * i + 1))
    rw [if_pos h12]
    simp only [r1, Option.bind_some, e1, e2, if_true]
    exact ⟨_, _, _, rfl, hI⟩
  rw [if_neg h12]
  by_cases h13 : (xs (5 * i) &&& 63) = 13
  · obtain ⟨r, c', m', e1, e2, hI⟩ := op_order h (xs (5 * i + 1)) (xs (5 * i + 2)) (xs (5 * i + 3)) (xs (5 * i + 4))
    rw [if_pos h13]
    simp only [r1, r2, r3, r4, Option.bind_some, e1, e2, if_true]
    exact ⟨_, _, _, rfl, hI⟩
  rw [if_neg h13]
  by_cases h14 : (xs (5 * i) &&& 63) = 14
  · obtain ⟨r, c', m', e1, e2, hI⟩ := op_seat h (xs (5 * i + 1))
    rw [if_pos h14]
    simp only [r1, Option.bind_some, e1, e2, if_true]
    exact ⟨_, _, _, rfl, hI⟩
  rw [if_neg h14]
  by_cases h15 : (xs (5 * i) &&& 63) = 15
  · obtain ⟨r, c', m', e1, e2, hI⟩ := op_counted h (xs (5 * i + 1))
    rw [if_pos h15]
    simp only [r1, Option.bind_some, e1, e2, if_true]
    exact ⟨_, _, _, rfl, hI⟩
  rw [if_neg h15]
  by_cases h16 : (xs (5 * i) &&& 63) = 16
  · obtain ⟨r, c', m', e1, e2, hI⟩ := op_handed h (xs (5 * i + 1))
    rw [if_pos h16]
    simp only [r1, Option.bind_some, e1, e2, if_true]
    exact ⟨_, _, _, rfl, hI⟩
  rw [if_neg h16]
  by_cases h17 : (xs (5 * i) &&& 63) = 17
  · obtain ⟨r, c', m', e1, e2, hI⟩ := op_taken h (xs (5 * i + 1)) (xs (5 * i + 2))
    rw [if_pos h17]
    simp only [r1, r2, Option.bind_some, e1, e2, if_true]
    exact ⟨_, _, _, rfl, hI⟩
  rw [if_neg h17]
  by_cases h18 : (xs (5 * i) &&& 63) = 18
  · obtain ⟨r, c', m', e1, e2, hI⟩ := op_ofKind h (xs (5 * i + 1)) (xs (5 * i + 2))
    rw [if_pos h18]
    simp only [r1, r2, Option.bind_some, e1, e2, if_true]
    exact ⟨_, _, _, rfl, hI⟩
  rw [if_neg h18]
  by_cases h19 : (xs (5 * i) &&& 63) = 19
  · obtain ⟨r, c', m', l', e1, e2, hI⟩ := op_ways l h (xs (5 * i + 1))
    rw [if_pos h19]
    simp only [r1, Option.bind_some, e1, e2]
    rw [if_pos ((lg_cmp_eq _ _).mpr rfl)]
    exact ⟨_, _, _, rfl, hI⟩
  rw [if_neg h19]
  by_cases h20 : (xs (5 * i) &&& 63) = 20
  · obtain ⟨r, c', m', e1, e2, hI⟩ := op_by h (xs (5 * i + 1)) (xs (5 * i + 2))
    rw [if_pos h20]
    simp only [r1, r2, Option.bind_some, e1, e2, if_true]
    exact ⟨_, _, _, rfl, hI⟩
  rw [if_neg h20]
  by_cases h21 : (xs (5 * i) &&& 63) = 21
  · obtain ⟨r, c', m', e1, e2, hI⟩ := op_sure h (xs (5 * i + 1))
    rw [if_pos h21]
    simp only [r1, Option.bind_some, e1, e2, if_true]
    exact ⟨_, _, _, rfl, hI⟩
  rw [if_neg h21]
  by_cases h22 : (xs (5 * i) &&& 63) = 22
  · obtain ⟨r, c', m', e1, e2, hI⟩ := op_threshold h (xs (5 * i + 1))
    rw [if_pos h22]
    simp only [r1, Option.bind_some, e1, e2, if_true]
    exact ⟨_, _, _, rfl, hI⟩
  rw [if_neg h22]
  by_cases h23 : (xs (5 * i) &&& 63) = 23
  · obtain ⟨r, c', m', e1, e2, hI⟩ := op_claim h (xs (5 * i + 1))
    rw [if_pos h23]
    simp only [r1, Option.bind_some, e1, e2, if_true]
    exact ⟨_, _, _, rfl, hI⟩
  rw [if_neg h23]
  by_cases h24 : (xs (5 * i) &&& 63) = 24
  · obtain ⟨r, c', m', e1, e2, hI⟩ := op_successor h (xs (5 * i + 1))
    rw [if_pos h24]
    simp only [r1, Option.bind_some, e1, e2, if_true]
    exact ⟨_, _, _, rfl, hI⟩
  rw [if_neg h24]
  by_cases h25 : (xs (5 * i) &&& 63) = 25
  · obtain ⟨r, c', m', e1, e2, hI⟩ := op_passed h (xs (5 * i + 1))
    rw [if_pos h25]
    simp only [r1, Option.bind_some, e1, e2, if_true]
    exact ⟨_, _, _, rfl, hI⟩
  rw [if_neg h25]
  by_cases h26 : (xs (5 * i) &&& 63) = 26
  · obtain ⟨r, c', m', e1, e2, hI⟩ := op_nearest h (xs (5 * i + 1))
    rw [if_pos h26]
    simp only [r1, Option.bind_some, e1, e2, if_true]
    exact ⟨_, _, _, rfl, hI⟩
  rw [if_neg h26]
  by_cases h27 : (xs (5 * i) &&& 63) = 27
  · obtain ⟨r, c', m', e1, e2, hI⟩ := op_envy h 
    rw [if_pos h27]
    simp only [Option.bind_some, e1, e2, if_true]
    exact ⟨_, _, _, rfl, hI⟩
  rw [if_neg h27]
  by_cases h28 : (xs (5 * i) &&& 63) = 28
  · obtain ⟨r, c', m', e1, e2, hI⟩ := op_round h 
    rw [if_pos h28]
    simp only [Option.bind_some, e1, e2, if_true]
    exact ⟨_, _, _, rfl, hI⟩
  rw [if_neg h28]
  by_cases h29 : (xs (5 * i) &&& 63) = 29
  · obtain ⟨r, c', m', e1, e2, hI⟩ := op_answer h (xs (5 * i + 1)) (xs (5 * i + 2))
    rw [if_pos h29]
    simp only [r1, r2, Option.bind_some, e1, e2, if_true]
    exact ⟨_, _, _, rfl, hI⟩
  rw [if_neg h29]
  by_cases h30 : (xs (5 * i) &&& 63) = 30
  · obtain ⟨r, c', m', e1, e2, hI⟩ := op_again h (xs (5 * i + 1))
    rw [if_pos h30]
    simp only [r1, Option.bind_some, e1, e2, if_true]
    exact ⟨_, _, _, rfl, hI⟩
  rw [if_neg h30]
  by_cases h31 : (xs (5 * i) &&& 63) = 31
  · obtain ⟨r, e1, e2⟩ := op_note h (xs (5 * i + 1)) (xs (5 * i + 2))
    rw [if_pos h31]
    simp only [r1, r2, Option.bind_some, e1, e2, if_true]
    exact ⟨_, _, _, rfl, h⟩
  rw [if_neg h31]
  by_cases h32 : (xs (5 * i) &&& 63) = 32
  · obtain ⟨r, c', m', e1, e2, hI⟩ := op_back h (xs (5 * i + 1))
    rw [if_pos h32]
    simp only [r1, Option.bind_some, e1, e2, if_true]
    exact ⟨_, _, _, rfl, hI⟩
  rw [if_neg h32]
  by_cases h33 : (xs (5 * i) &&& 63) = 33
  · obtain ⟨r, c', m', e1, e2, hI⟩ := op_many h (xs (5 * i + 1))
    rw [if_pos h33]
    simp only [r1, Option.bind_some, e1, e2, if_true]
    exact ⟨_, _, _, rfl, hI⟩
  rw [if_neg h33]
  exact ⟨_, _, _, rfl, h⟩
/-- THE PURE STATEMENT -/
theorem pure_law (L : Nat) (xs : Nat → Int32) (hL : L ≤ 2560) : f_L_law cm0 mm0 lm0 L xs = some 1 := by
  have key := itr_inv (step := fun s : Int32 × CM × MM × LM => f_L_law_B18 L xs s.1 s.2.1 s.2.2.1 s.2.2.2) (fun i s => s.1 = nI (5 * i) ∧ INV s.2.1 s.2.2.1) (fun o => ∃ a, o = .inl a) (L / 5) ?_ ?_ 2000 0 (0, cm0, mm0, lm0) (Nat.zero_le _) (by omega) ⟨rfl, INV_0⟩
  · obtain ⟨o, i1, a, rfl⟩ := key
    unfold f_L_law
    rw [i1, Option.bind_some]
  · rintro i ⟨x, c, m, l⟩ hi ⟨e, hI⟩
    dsimp only at e hI
    subst e
    dsimp only
    obtain ⟨c', m', l', s1, s2⟩ := law_step (l := l) (xs := xs) hL (show 5 * i + 5 ≤ L by omega) hI
    exact Or.inl ⟨_, s1, rfl, s2⟩
  · rintro ⟨x, c, m, l⟩ ⟨e, hI⟩
    dsimp only at e hI
    subst e
    dsimp only
    unfold f_L_law_B18
    rw [if_pos (show Int32.ofNat L - 5 < nI (5 * (L / 5)) by
      rw [nI_def, show (5 : Int32) = nI 5 from rfl]
      by_cases h : 5 ≤ L
      · rw [pk_sub h]; exact nI_lt (by omega) (by omega)
      · rw [show 5 * (L / 5) = 0 by omega]
        exact pk_sneg (by omega) (by omega))]
    exact ⟨_, rfl, _, rfl⟩
