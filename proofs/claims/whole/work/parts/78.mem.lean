/-! PURE PART: who is in a choice, as a number; many -/
theorem mchosen {n : Nat} {ch mm : MM} (hn : n ≤ 16) (hc : mm 1 157 = nI n) (hW : RW n ch mm) : f_X7_chosen mm = some (ch 0 11) := by
  have key := itr_for (step := fun s : Int32 × Int32 => f_X7_chosen_B4 mm s.1 s.2) (fun k s => s.2 = nI k ∧ ∀ i, i < 32 → bt s.1 i = (decide (i < k) && bt (ch 0 11) i)) n (0, 0) (by omega) ⟨rfl, fun i _ => by rw [b_0]; simp⟩ ?_ ?_
  · obtain ⟨⟨x, y⟩, hI, -, k1⟩ := key
    unfold f_X7_chosen
    rw [hI, Option.bind_some]
    dsimp only
    dsimp only at k1
    congr 1
    refine b_ext (fun i hi => ?_)
    rw [k1 i hi]
    by_cases h : i < n
    · rw [decide_eq_true h]; rfl
    · rw [hW.2 i (by omega) hi, Bool.and_false]
  · rintro k ⟨x, y⟩ hk ⟨e, k1⟩
    dsimp only at e k1
    subst e
    obtain ⟨-, -, -, -, r5⟩ := hW.1 k hk
    dsimp only
    unfold f_X7_chosen_B4
    rw [rd_157, hc, Option.bind_some, ifle (by omega) (by omega), if_neg (by omega), rd_nI _ (by omega) (by omega), Option.bind_some, nI_1]
    by_cases h : mm 8 k = -9
    · rw [if_pos h]
      refine ⟨_, rfl, rfl, fun i hi => ?_⟩
      dsimp only
      rw [b_or, b_0, Bool.or_false, k1 i hi]
      by_cases e : i = k
      · subst e
        have : bt (ch 0 11) i = false := by
          cases hb : bt (ch 0 11) i
          · rfl
          · exact absurd h (r5.mp hb)
        rw [this, Bool.and_false, Bool.and_false]
      · rw [decide_eq_decide.mpr (show i < k ↔ i < k + 1 by omega)]
    · rw [if_neg h]
      refine ⟨_, rfl, rfl, fun i hi => ?_⟩
      dsimp only
      rw [bt_take (by omega) hi, k1 i hi]
      by_cases e : i = k
      · subst e
        rw [r5.mpr h]
        simp
      · rw [decide_eq_false e, Bool.or_false, decide_eq_decide.mpr (show i < k ↔ i < k + 1 by omega)]
  · rintro ⟨x, y⟩ ⟨e, k1⟩
    dsimp only at e
    subst e
    dsimp only
    unfold f_X7_chosen_B4
    rw [rd_157, hc, Option.bind_some, ifle (by omega) (by omega), if_pos (by omega)]
def mk1 (m : Nat → Int32) : MM := fun p => if p = 1 then m else fun _ => 0
/-- who is in the choice of a row of the reference -/
def mem (m : Nat → Int32) : Int32 := ((f_X7_choose (mk1 m)).bind f_X7_chosen).getD 0
/-- a choice that is tried: office o, choice C -/
theorem tri {cm : CM} {C o n : Nat} {m : Nat → Int32} (hoC : o ≠ C) (hO : OF (cm o 1) m n) :
    ∃ ch, f_X0_make cm C o = some (pC cm C ch) ∧ ch 0 11 = mem m ∧ (∀ i, n ≤ i → i < 32 → bt (mem m) i = false) ∧ ∀ mm0 : MM, mm0 1 = m → ∃ mm1, f_X7_choose mm0 = some mm1 ∧ CHM (cm o 1) m n ch mm1 ∧ KM mm0 mm1 ∧ f_X7_chosen mm1 = some (mem m) ∧ ∀ p, p < n → (mm1 8 p = -9 ↔ ¬ bt (mem m) p = true) := by
  have hG := hO.2.1
  obtain ⟨ch1, ch2, a1, a2, a3, a4⟩ := made (cm := cm) (C := C) (o := o) (n := n) (mm := mk1 m) hoC hO rfl
  have e : ch1 0 11 = mem m := by
    obtain ⟨mm1, mm2, b1, b2, -⟩ := a4 (mk1 m) rfl
    have := mchosen hG.2.1 (by rw [b2.1.1.2.1]; exact hG.1) b2.1.2.1.w
    unfold mem
    rw [b1, Option.bind_some, this]
    rfl
  obtain ⟨mm1, mm2, b1, b2, -⟩ := a4 (mk1 m) rfl
  refine ⟨ch1, a1, e, fun i h1 h2 => by rw [← e]; exact b2.1.2.1.2 i h1 h2, fun mm0 h0 => ?_⟩
  obtain ⟨mm1', mm2', c1, c2, c3, -⟩ := a4 mm0 h0
  refine ⟨mm1', c1, c2, c3, ?_, fun p hp => ?_⟩
  · rw [mchosen hG.2.1 (by rw [c2.1.1.2.1]; exact hG.1) c2.1.2.1.w, e]
  · have := (c2.1.2.1.1 p hp).2.2.2.2.2
    rw [← e, this, Decidable.not_not]
theorem mem_eq {c m m' : Nat → Int32} {n : Nat} (h : OF c m n) (h' : OF c m' n) : mem m = mem m' := by
  obtain ⟨ch, a1, a2, -⟩ := tri (cm := fun _ _ => c) (C := 29) (o := 28) (by decide) h
  obtain ⟨ch', b1, b2, -⟩ := tri (cm := fun _ _ => c) (C := 29) (o := 28) (by decide) h'
  rw [a1] at b1
  have := pC_inj (Option.some.inj b1)
  rw [← a2, ← b2, this]
theorem mis {c m : Nat → Int32} {n p : Nat} {mm0 : MM} (hO : OF c m n) (hp : p < n) (h0 : mm0 1 = m) : ∃ mm1, f_X7_isChosen mm0 (nI p) = some (if bt (mem m) p = true then 1 else 0, mm1) ∧ KM mm0 mm1 := by
  have hn := hO.2.1.2.1
  obtain ⟨ch, -, -, -, a4⟩ := tri (cm := fun _ _ => c) (C := 29) (o := 28) (by decide) hO
  obtain ⟨mm1, b1, -, b3, -, b5⟩ := a4 mm0 h0
  refine ⟨mm1, ?_, b3⟩
  unfold f_X7_isChosen
  rw [b1, Option.bind_some, rd_nI _ (by omega) (by omega), Option.bind_some]
  by_cases h : mm1 8 p = -9
  · rw [if_pos h, if_neg ((b5 p hp).mp h)]
  · rw [if_neg h, if_pos (Decidable.not_not.mp (fun q => h ((b5 p hp).mpr q)))]
/-! many -/
theorem std_0 : ∀ j, j < 5 → (decide (¬ (2 : Int32) < nI j) = decide (0 ≤ j ∧ j ≤ 2)) ∧ (decide (nI j = 3) = decide (3 ≤ j ∧ j ≤ 3)) ∧ (decide (nI j = 4) = decide (4 ≤ j ∧ j ≤ 4)) := by decide +kernel
theorem mstanding {mm : MM} {n a b : Nat} (hV : VM (mm 1) n) (ha : a ≤ 4) (hb : b ≤ 4) : f_X7_standing mm (nI a) (nI b) = some (nI (cntP (fun p => decide (a ≤ dN (mm 1 (8 * p + 4)) ∧ dN (mm 1 (8 * p + 4)) ≤ b)) n)) := by
  have hn := hV.2.1
  unfold f_X7_standing
  rw [itr_cnt (fun p => decide (a ≤ dN (mm 1 (8 * p + 4)) ∧ dN (mm 1 (8 * p + 4)) ≤ b)) n (by omega) ?_ ?_, Option.bind_some]
  · intro i c hi _
    obtain ⟨-, -, -, -, ⟨j, hj, ej⟩, -⟩ := hV.2.2.1 i hi
    dsimp only
    unfold f_X7_standing_B5 f_X7_within
    rw [rd_157, hV.1, Option.bind_some, ifle (by omega) (by omega), if_neg (by omega), mo_4 (by omega), Option.bind_some, ej, dN_nI (by omega), nI_1, nI_1, Int32.add_zero]
    by_cases h1 : nI j < nI a
    · have : ¬ (a ≤ j ∧ j ≤ b) := fun q => nI_nlt q.1 (by omega) h1
      rw [if_pos h1, Option.bind_some, i00, decide_eq_false this]; rfl
    · by_cases h2 : nI b < nI j
      · have : ¬ (a ≤ j ∧ j ≤ b) := fun q => nI_nlt q.2 (by omega) h2
        rw [if_neg h1, if_pos h2, Option.bind_some, i00, decide_eq_false this]; rfl
      · rw [if_neg h1, if_neg h2, Option.bind_some, i10]
        by_cases h3 : a ≤ j ∧ j ≤ b
        · rw [decide_eq_true h3]; rfl
        · by_cases h4 : a ≤ j
          · exact absurd (nI_lt (a := b) (b := j) (by omega) (by omega)) h2
          · exact absurd (nI_lt (a := j) (b := a) (by omega) (by omega)) h1
  · intro c
    dsimp only
    unfold f_X7_standing_B5
    rw [rd_157, hV.1, Option.bind_some, ifle (by omega) (by omega), if_pos (by omega)]
theorem oactives {cm : CM} {o n : Nat} (hn : n ≤ 16) (hc : cm o 1 158 = nI n) : f_X3_countActive cm o = some (nI (cntP (fun p => decide (¬ 2 < cm o 1 (64 + p))) n)) := by
  unfold f_X3_countActive
  rw [itr_cnt (fun p => decide (¬ 2 < cm o 1 (64 + p))) n (by omega) ?_ ?_, Option.bind_some]
  · intro i c hi _
    dsimp only
    unfold f_X3_countActive_B4
    rw [opeople, hc, Option.bind_some, ifle (by omega) (by omega), if_neg (by omega), oactive (by omega), Option.bind_some, nI_1, nI_1]
    by_cases h : 2 < cm o 1 (64 + i)
    · rw [if_pos h, i00, if_neg (by rw [decide_eq_true_eq]; exact fun q => q h)]; rfl
    · rw [if_neg h, i10, if_pos (decide_eq_true h)]
  · intro c
    dsimp only
    unfold f_X3_countActive_B4
    rw [opeople, hc, Option.bind_some, ifle (by omega) (by omega), if_pos (by omega)]
theorem counted_2 {cm : CM} {C n : Nat} {mm : MM} (hn : n ≤ 16) (hc : cm C 0 10 = nI n) (e157 : mm 1 157 = nI n) (hC : RC n (cm C) mm) : ∃ r, f_X0_countCounted cm C = some r ∧ f_X7_countedInAll mm = some r := by
  have hGo : ∀ p, p < n → oN (cm C 12 p) 4 := fun p hp => by
    obtain ⟨-, r2, -, -, r5, -⟩ := hC.1 p hp
    rw [r2]; exact r5.2
  have key := itr2_for (st1 := fun s : Int32 × Int32 => f_X0_countCounted_B4 cm C s.1 s.2) (st2 := fun s : Int32 × Int32 => f_X7_countedInAll_B4 mm s.1 s.2) (fun k s1 s2 => ∃ x, s1 = (x, nI k) ∧ s2 = (x, nI k)) 4 (0, 0) (0, 0) (by omega) ⟨_, rfl, rfl⟩ ?_ ?_
  · obtain ⟨s1, s2, i1, i2, x, rfl, rfl⟩ := key
    refine ⟨x, ?_, ?_⟩
    · unfold f_X0_countCounted
      rw [i1, Option.bind_some]
    · unfold f_X7_countedInAll
      rw [i2, Option.bind_some]
  · rintro k s1 s2 hk ⟨x, rfl, rfl⟩
    dsimp only
    have e : cntP (fun p => tkB mm k p && decide (¬ cm C 12 p = -9)) n = cntP (fun p => tkB mm k p && decide (¬ mm 9 p = -9) && decide ((-9 : Int32) = -9 ∨ mm 9 p = -9)) n := by
      refine cntP_congr n (fun i hi => ?_)
      obtain ⟨-, r2, -⟩ := hC.1 i hi
      rw [r2, decide_eq_true (show ((-9 : Int32) = -9 ∨ mm 9 i = -9) from Or.inl rfl), Bool.and_true]
    refine ⟨_, _, ?_, ?_, x + nI (cntP (fun p => tkB mm k p && decide (¬ cm C 12 p = -9)) n), rfl, rfl⟩
    · unfold f_X0_countCounted_B4
      rw [if_neg (show ¬ (4 : Int32) ≤ nI k from nI_ge (b := 4) hk (by omega)), ocountCounted hk hn hc (tkB_c hC) hGo, Option.bind_some, nI_1]
    · unfold f_X7_countedInAll_B4
      rw [if_neg (show ¬ (4 : Int32) ≤ nI k from nI_ge (b := 4) hk (by omega)), mcountedIn _ hn e157, Option.bind_some, nI_1, ← e]
  · rintro s1 s2 ⟨x, rfl, rfl⟩
    dsimp only
    unfold f_X0_countCounted_B4 f_X7_countedInAll_B4
    rw [if_pos (by decide), if_pos (by decide)]
    exact ⟨rfl, rfl⟩
theorem op_many {cm : CM} {mm : MM} (h : INV cm mm) (a1 : Int32) : EQ2 (f_X6_many cm a1) (f_X7_many mm a1) := by
  obtain ⟨cm', n, mm1, mm2, p1, p2, l', V, p3, p4, c1, c2, c3, d1, d2, d3⟩ := h.ask
  have hn := V.2.1
  have l : lay (cm 1 1) (mm 1) := by rw [← p3]; exact l'
  have e158 : cm 1 1 158 = nI n := by rw [ly_158 l]; exact V.1
  have sd : ∀ i, i < n → ∃ j, j < 5 ∧ cm 1 1 (64 + i) = nI j ∧ mm 1 (8 * i + 4) = nI j := fun i hi => by
    obtain ⟨-, -, -, -, ⟨j, hj, ej⟩, -⟩ := V.2.2.1 i hi
    exact ⟨j, by omega, by rw [ly_64 l (by omega)]; exact ej, ej⟩
  unfold f_X6_many f_X7_many
  by_cases h0 : a1 = 0
  · rw [if_pos h0, if_pos h0, opeople, e158, Option.bind_some, rd_157, V.1, Option.bind_some]
    exact EQ2.k h _
  rw [if_neg h0, if_neg h0]
  by_cases h1 : a1 = 1
  · rw [if_pos h1, if_pos h1, oactives hn e158, Option.bind_some, show f_X7_standing mm 0 2 = f_X7_standing mm (nI 0) (nI 2) from rfl, mstanding V (by omega) (by omega), Option.bind_some]
    rw [cntP_congr n (Q := fun p => decide (0 ≤ dN (mm 1 (8 * p + 4)) ∧ dN (mm 1 (8 * p + 4)) ≤ 2)) (fun i hi => ?_)]
    · exact EQ2.k h _
    · obtain ⟨j, hj, q1, q2⟩ := sd i hi
      rw [q1, q2, dN_nI (by omega)]
      exact (std_0 j hj).1
  rw [if_neg h1, if_neg h1]
  by_cases h2 : a1 = 2
  · obtain ⟨s1, s2, -⟩ := c2.out
    rw [if_pos h2, if_pos h2, p1, Option.bind_some, c1, Option.bind_some]
    unfold f_X0_members
    rw [Option.bind_some, bitc (fun i q1 q2 => s2.2 i (by omega) q2), Option.bind_some, mchosen hn (by rw [s1.2.1]; exact V.1) s2, Option.bind_some, msize, Option.bind_some]
    exact ⟨_, _, _, rfl, rfl, p2.km c3⟩
  rw [if_neg h2, if_neg h2]
  by_cases h3 : a1 = 3
  · rw [if_pos h3, if_pos h3, og_157, Option.bind_some, rd_158, Option.bind_some, ly_157 l]
    exact EQ2.k h _
  rw [if_neg h3, if_neg h3]
  by_cases h4 : a1 = 4
  · have hh := h
    obtain ⟨n', -, -, ⟨a, b, -, -, -, -, g5, g6, -⟩, -⟩ := hh
    unfold f_X2_size
    rw [if_pos h4, if_pos h4, Option.bind_some, g5, g6]
    exact EQ2.k h _
  rw [if_neg h4, if_neg h4]
  by_cases h5 : a1 = 5
  · obtain ⟨r, r1, r2⟩ := counted_2 (cm := cm') (C := 27) (mm := mm2) hn d2.1.1.1 (by rw [d2.1.1.2.1]; exact V.1) d2.1.2.1
    rw [if_pos h5, if_pos h5, p1, Option.bind_some, r1, Option.bind_some, d1, Option.bind_some, r2, Option.bind_some]
    exact ⟨_, _, _, rfl, rfl, p2.km d3⟩
  rw [if_neg h5, if_neg h5]
  by_cases h6 : a1 = 6
  · rw [if_pos h6, if_pos h6, ocountWith (base := 64) hn e158 (fun i hi => og_64 (by omega)), Option.bind_some, show f_X7_standing mm 3 3 = f_X7_standing mm (nI 3) (nI 3) from rfl, mstanding V (by omega) (by omega), Option.bind_some]
    rw [cntP_congr n (Q := fun p => decide (3 ≤ dN (mm 1 (8 * p + 4)) ∧ dN (mm 1 (8 * p + 4)) ≤ 3)) (fun i hi => ?_)]
    · exact EQ2.k h _
    · obtain ⟨j, hj, q1, q2⟩ := sd i hi
      rw [q1, q2, dN_nI (by omega)]
      exact (std_0 j hj).2.1
  rw [if_neg h6, if_neg h6]
  by_cases h7 : a1 = 7
  · rw [if_pos h7, if_pos h7, ocountWith (base := 64) hn e158 (fun i hi => og_64 (by omega)), Option.bind_some, show f_X7_standing mm 4 4 = f_X7_standing mm (nI 4) (nI 4) from rfl, mstanding V (by omega) (by omega), Option.bind_some]
    rw [cntP_congr n (Q := fun p => decide (4 ≤ dN (mm 1 (8 * p + 4)) ∧ dN (mm 1 (8 * p + 4)) ≤ 4)) (fun i hi => ?_)]
    · exact EQ2.k h _
    · obtain ⟨j, hj, q1, q2⟩ := sd i hi
      rw [q1, q2, dN_nI (by omega)]
      exact (std_0 j hj).2.2
  rw [if_neg h7, if_neg h7]
  exact EQ2.k h _
