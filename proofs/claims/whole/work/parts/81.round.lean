/-! PURE PART: round -/
def RR (cm1 : CM) (mm1 : MM) (n : Nat) (c : CM) (m : MM) : Prop := lay (c 1 1) (m 1) ∧ VM (m 1) n ∧ (∀ o, o ≠ 1 → c o = cm1 o) ∧ keeps [1] mm1 m
theorem round_1 {cm1 : CM} {mm1 : MM} {n : Nat} (l : lay (cm1 1 1) (mm1 1)) (V : VM (mm1 1) n) : ∃ x c m, itr (fun s : Int32 × CM => f_X6_round_B6 s.1 s.2) 2000 (0, cm1) = some (x, c) ∧ itr (fun s : Int32 × MM => f_X7_round_B6 s.1 s.2) 2000 (0, mm1) = some (x, m) ∧ RR cm1 mm1 n c m := by
  have hn := V.2.1
  have key := itr2_for (st1 := fun s : Int32 × CM => f_X6_round_B6 s.1 s.2) (st2 := fun s : Int32 × MM => f_X7_round_B6 s.1 s.2) (fun k t1 t2 => ∃ c m, t1 = (nI k, c) ∧ t2 = (nI k, m) ∧ RR cm1 mm1 n c m) n (0, cm1) (0, mm1) (by omega) ⟨_, _, rfl, rfl, l, V, fun _ _ => rfl, keeps.rf _ _⟩ ?_ ?_
  · obtain ⟨t1, t2, i1, i2, c, m, rfl, rfl, hR⟩ := key
    exact ⟨_, c, m, i1, i2, hR⟩
  · rintro k t1 t2 hk ⟨c, m, rfl, rfl, l, V, h1, h2⟩
    have hp : k < 16 := by omega
    dsimp only
    unfold f_X6_round_B6 f_X7_round_B6
    rw [opeople, ly_158 l, V.1, Option.bind_some, ifle (by omega) (by omega), if_neg (by omega), og_64 hp, Option.bind_some, ly_64 l hp, rd_157, V.1, Option.bind_some, ifle (by omega) (by omega), if_neg (show ¬ n ≤ k by omega), mo_4 hp, Option.bind_some, nI_1]
    by_cases e : m 1 (8 * k + 4) = 1
    · rw [if_pos e, if_pos e, odismiss hp, Option.bind_some, mb_4 hp, Option.bind_some, mforgets hp, Option.bind_some]
      refine ⟨_, _, rfl, rfl, _, _, rfl, rfl, ?_, ?_, fun o ho => ?_, fun q hq => ?_⟩
      · rw [u3_s, u2_s, u2_s]; exact lay_ds l hp 4
      · rw [u2_s, u2_s]
        exact V.pp hp (fun i hi hne => by rw [fgt_n hne, upd_n _ _ (by omega)]) (fun hk => VP_fgt (VP_4 (V.2.2.1 k hk) ⟨4, by omega, rfl⟩))
      · rw [u3_o ho]; exact h1 o ho
      · rw [u2_n _ _ (by simp at hq; omega), u2_n _ _ (by simp at hq; omega)]; exact h2 q hq
    · rw [if_neg e, if_neg e]
      exact ⟨_, _, rfl, rfl, _, _, rfl, rfl, l, V, h1, h2⟩
  · rintro t1 t2 ⟨c, m, rfl, rfl, l, V, h1, h2⟩
    dsimp only
    unfold f_X6_round_B6 f_X7_round_B6
    rw [opeople, ly_158 l, V.1, Option.bind_some, ifle (by omega) (by omega), if_pos (by omega), rd_157, V.1, Option.bind_some, ifle (by omega) (by omega), if_pos (by omega)]
    exact ⟨rfl, rfl⟩
theorem fgt_158 {m : Nat → Int32} {p : Nat} {y : Int32} (hp : p < 16) : fgt (upd m 158 y) p = upd (fgt m p) 158 y := by
  unfold fgt
  rw [upd_cm (j := 158) (k := 8 * p + 5) (by omega), upd_cm (j := 158) (k := 8 * p + 6) (by omega), upd_cm (j := 158) (k := 8 * p + 7) (by omega)]
theorem lay_3 {c m : Nat → Int32} {p : Nat} (h : lay c m) (hp : p < 16) (a b d : Int32) : lay (upd (upd (upd c (80 + p) a) (96 + p) b) (112 + p) d) (upd (upd (upd m (8 * p + 5) a) (8 * p + 6) b) (8 * p + 7) d) :=
  lay_up (f := 7) (lay_up (f := 6) (lay_up (f := 5) h hp (by omega) a) hp (by omega) b) hp (by omega) d
theorem VP_3 {m : Nat → Int32} {p : Nat} {a b d : Int32} (h : VP m p) (ha : oN a 4) (hb : oN b 4) : VP (upd (upd (upd m (8 * p + 5) a) (8 * p + 6) b) (8 * p + 7) d) p := by
  refine VP_u (f := 7) (VP_u (f := 6) (VP_u (f := 5) h ?_ ?_ ?_ ?_ ?_ ?_ ?_) ?_ ?_ ?_ ?_ ?_ ?_ ?_) ?_ ?_ ?_ ?_ ?_ ?_ ?_ <;> first | exact fun _ => ha | exact fun _ => hb | (intro q; exact absurd q (by decide))
/-- while notes are made: the reference's number of rounds is ahead -/
def RN (cB : CM) (mB : MM) (n : Nat) (y z : Int32) (c : CM) (m : MM) : Prop := ∃ m0, lay (c 1 1) m0 ∧ VM m0 n ∧ m0 158 = z ∧ m 1 = upd m0 158 y ∧ (∀ o, o ≠ 1 → c o = cB o) ∧ keeps [1] mB m
theorem settle_1 {cB : CM} {mB : MM} {n k : Nat} {y z : Int32} {c : CM} {m : MM} (hC : RC n (cB 27) mB) (hk : k < n) (h : RN cB mB n y z c m) :
    ∃ v c' m', f_X6_settle c (nI k) = some (v, c') ∧ ((rd 16 (m 8) (nI k)).bind fun x84 => ((if x84 = (-9) then some 0 else (f_X7_of m (nI k) 4).bind fun x93 => if x93 = 0 then some 1 else some 0) : Option (Int32)).bind fun k104_0 => (f_X7_notes m (nI k)).bind fun r108 => some (k104_0, r108)) = some (v, m') ∧ RN cB mB n y z c' m' := by
  obtain ⟨m0, l, V, hz, e1, h1, h2⟩ := h
  have hn := V.2.1
  have hp : k < 16 := by omega
  obtain ⟨r1, r2, r3, r4, ⟨r5, r6⟩, r7⟩ := hC.1 k hk
  have e8 : m 8 = mB 8 := h2 8 (by decide)
  have e9 : m 9 = mB 9 := h2 9 (by decide)
  have e10 : m 10 = mB 10 := h2 10 (by decide)
  have e27 : c 27 = cB 27 := h1 27 (by decide)
  have em : m 1 (8 * k + 4) = m0 (8 * k + 4) := by rw [e1, upd_n _ _ (by omega)]
  unfold f_X6_settle f_X7_notes
  rw [og_64 hp, Option.bind_some, ly_64 l hp, ohas' (by omega), e27, Option.bind_some, rd_nI _ hp (by omega), e8, Option.bind_some, Option.bind_some, mo_4 hp, em, Option.bind_some, Option.bind_some]
  by_cases h9 : mB 8 k = -9
  · rw [if_neg (fun q => r7.mp q h9), i00, if_pos h9, if_pos h9, Option.bind_some]
    by_cases h4 : m0 (8 * k + 4) = 2
    · rw [if_pos h4, if_pos h4, odismiss hp, Option.bind_some, mb_4 hp, Option.bind_some, mforgets hp, Option.bind_some, Option.bind_some]
      refine ⟨_, _, _, rfl, rfl, fgt (upd m0 (8 * k + 4) 0) k, ?_, ?_, ?_, ?_, fun o ho => ?_, fun q hq => ?_⟩
      · rw [u3_s]; exact lay_ds l hp 0
      · exact V.pp hp (fun i hi hne => by rw [fgt_n hne, upd_n _ _ (by omega)]) (fun hk => VP_fgt (VP_4 (V.2.2.1 k hk) ⟨0, by omega, rfl⟩))
      · rw [fgt_n (by omega), upd_n _ _ (by omega)]; exact hz
      · rw [u2_s, u2_s, e1, upd_cm (j := 158) (k := 8 * k + 4) (by omega), fgt_158 hp]
      · rw [u3_o ho]; exact h1 o ho
      · rw [u2_n _ _ (by simp at hq; omega), u2_n _ _ (by simp at hq; omega)]; exact h2 q hq
    · rw [if_neg h4, if_neg h4, Option.bind_some]
      exact ⟨_, _, _, rfl, rfl, m0, l, V, hz, e1, h1, h2⟩
  · have e14 : ((if mB 10 k = 0 then some 0 else some 1) : Option Int32) = some (mB 10 k) := by
      rcases r5 with q | q
      · rw [q]; rfl
      · rw [q]; rfl
    unfold f_X0_seatOf f_X0_groupOf f_X0_handedTo
    rw [if_pos (r7.mpr h9), i10, if_neg h9, if_neg h9, rowget hp (by omega), e27, r1, Option.bind_some, Option.bind_some, os_80 hp, Option.bind_some, rowget hp (by omega), u3_o (by decide), e27, r2, Option.bind_some, Option.bind_some, os_96 hp, Option.bind_some, rowget hp (by omega), u3_o (by decide), u3_o (by decide), e27, r3, Option.bind_some, Option.bind_some, os_112 hp, Option.bind_some, Option.bind_some, mb_5 hp, Option.bind_some, rd_nI _ hp (by omega), u2_n (p := 1) (b := 9) _ _ (by decide), e9, Option.bind_some, mb_6 hp, Option.bind_some, rd_nI _ hp (by omega), u2_n (p := 1) (b := 10) _ _ (by decide), u2_n (p := 1) (b := 10) _ _ (by decide), e10, Option.bind_some, e14, Option.bind_some, mb_7 hp, Option.bind_some, mo_4 hp]
    simp only [u3_s, u3_u3, u2_s, u2_u2]
    rw [Option.bind_some, upd_n _ _ (show 8 * k + 4 ≠ 8 * k + 7 by omega), upd_n _ _ (show 8 * k + 4 ≠ 8 * k + 6 by omega), upd_n _ _ (show 8 * k + 4 ≠ 8 * k + 5 by omega), em]
    have l3 := lay_3 l hp (mB 8 k) (mB 9 k) (mB 10 k)
    have V3 : VM (upd (upd (upd m0 (8 * k + 5) (mB 8 k)) (8 * k + 6) (mB 9 k)) (8 * k + 7) (mB 10 k)) n := V.pp hp (fun i hi hne => by rw [upd_n _ _ (by omega), upd_n _ _ (by omega), upd_n _ _ (by omega)]) (fun hk => VP_3 (V.2.2.1 k hk) r4 r6)
    have em3 : upd (upd (upd (m 1) (8 * k + 5) (mB 8 k)) (8 * k + 6) (mB 9 k)) (8 * k + 7) (mB 10 k) = upd (upd (upd (upd m0 (8 * k + 5) (mB 8 k)) (8 * k + 6) (mB 9 k)) (8 * k + 7) (mB 10 k)) 158 y := by
      rw [e1, upd_cm (j := 158) (k := 8 * k + 5) (by omega), upd_cm (j := 158) (k := 8 * k + 6) (by omega), upd_cm (j := 158) (k := 8 * k + 7) (by omega)]
    have hz3 : (upd (upd (upd m0 (8 * k + 5) (mB 8 k)) (8 * k + 6) (mB 9 k)) (8 * k + 7) (mB 10 k)) 158 = z := by
      rw [upd_n _ _ (by omega), upd_n _ _ (by omega), upd_n _ _ (by omega)]; exact hz
    by_cases h4 : m0 (8 * k + 4) = 0
    · rw [if_pos h4, if_pos h4, if_pos h4, os_64 hp, mb_4 hp]
      simp only [Option.bind_some, u3_s, u3_u3, u2_s, u2_u2]
      refine ⟨_, _, _, rfl, rfl, upd (upd (upd (upd m0 (8 * k + 5) (mB 8 k)) (8 * k + 6) (mB 9 k)) (8 * k + 7) (mB 10 k)) (8 * k + 4) 1, ?_, ?_, ?_, ?_, fun o ho => ?_, fun q hq => ?_⟩
      · rw [u3_s]; exact lay_up (f := 4) l3 hp (by omega) 1
      · exact V3.pp hp (fun i hi hne => by rw [upd_n _ _ (by omega)]) (fun hk => VP_4 (V3.2.2.1 k hk) ⟨1, by omega, rfl⟩)
      · rw [upd_n _ _ (by omega)]; exact hz3
      · rw [u2_s, em3, upd_cm (j := 158) (k := 8 * k + 4) (by omega)]
      · rw [u3_o ho]; exact h1 o ho
      · rw [u2_n _ _ (by simp at hq; omega)]; exact h2 q hq
    · rw [if_neg h4, if_neg h4, if_neg h4]
      simp only [Option.bind_some]
      refine ⟨_, _, _, rfl, rfl, _, ?_, V3, hz3, ?_, fun o ho => ?_, fun q hq => ?_⟩
      · rw [u3_s]; exact l3
      · rw [u2_s, em3]
      · rw [u3_o ho]; exact h1 o ho
      · rw [u2_n _ _ (by simp at hq; omega)]; exact h2 q hq
theorem op_round {cm : CM} {mm : MM} (h : INV cm mm) : EQ2 (f_X6_round cm) (f_X7_round mm) := by
  obtain ⟨n, l, V, R, -⟩ := h
  have hn := V.2.1
  obtain ⟨cm1, mm1, b1, b2, b3, b4, b5, b6⟩ := keep_2 l V R
  obtain ⟨x, cA, mA, g1, g2, lA, VA, g3, g4⟩ := round_1 (cm1 := cm1) (mm1 := mm1) (n := n) (by rw [b4, b5]; exact l) (by rw [b5]; exact V)
  obtain ⟨ch1, ch2, a1, a2, a3, a4⟩ := made (cm := cA) (C := 27) (o := 1) (n := n) (mm := mA) (by decide) (OF_of lA VA) rfl
  obtain ⟨mm3, mB, -, -, -, u4, u5, u6⟩ := a4 mA rfl
  have e1 : mB 1 = mA 1 := u6.1
  unfold f_X6_round f_X7_round
  rw [b1, Option.bind_some, g1, Option.bind_some]
  dsimp only
  rw [a1, Option.bind_some, a2, Option.bind_some, b2, Option.bind_some, g2, Option.bind_some]
  dsimp only
  rw [u4, Option.bind_some, rd_158, Option.bind_some, show (158 : Int32) = nI 158 from rfl, wr_nI _ _ (by omega) (by omega), Option.bind_some, e1]
  have key := itr2_for (st1 := fun s : Int32 × Int32 × CM => f_X6_round_B72 s.1 s.2.1 s.2.2) (st2 := fun s : Int32 × Int32 × MM => f_X7_round_B66 s.1 s.2.1 s.2.2) (fun k t1 t2 => ∃ y c m, t1 = (y, nI k, c) ∧ t2 = (y, nI k, m) ∧ RN (pC cA 27 ch2) mB n (mA 1 158 + 1) (mA 1 158) c m) n (0, 0, pC cA 27 ch2) (0, 0, u2 mB 1 (upd (mA 1) 158 (mA 1 158 + 1))) (by omega) ⟨_, _, _, rfl, rfl, mA 1, ?_, VA, rfl, u2_s _ _ _, fun _ _ => rfl, fun q hq => u2_n _ _ (by simp at hq; omega)⟩ ?_ ?_
  · obtain ⟨t1, t2, i1, i2, y, c, m, rfl, rfl, m0, l0, V0, hz, e0, h1, h2⟩ := key
    rw [i1, Option.bind_some]
    dsimp only
    rw [og_157, Option.bind_some, os_157, Option.bind_some, i2, Option.bind_some]
    refine ⟨y, _, m, rfl, rfl, n, ?_, ?_, ?_, fun q => ?_⟩
    · rw [u3_s, e0, ly_157 l0, hz]
      exact lay_upd (j := 157) l0 (by omega) _
    · rw [e0]
      exact V0.hi (fun i hi => upd_n _ _ (by omega)) (okSM_cg V0.2.2.2.1 (fun i _ _ => upd_n _ _ (by omega))) (okH_cg V0.2.2.2.2.1 (fun i _ _ => upd_n _ _ (by omega))) (okOr_cg V0.2.2.2.2.2 (fun i _ _ => upd_n _ _ (by omega)))
    · refine b3.kp (fun o h3 h4 => ?_) ?_ ?_ ?_
      · rw [u3_o (by omega), h1 o (by omega), pC_n _ _ (by omega), g3 o (by omega)]
      · rw [h2 2 (by decide), u6.2.1, g4 2 (by decide)]
      · rw [h2 0 (by decide), u6.2.2.2.1, g4 0 (by decide)]
      · rw [h2 0 (by decide), u6.2.2.2.2, g4 0 (by decide)]
    · rw [u3_o (by decide), h1 0 (by decide), pC_n _ _ (by decide), g3 0 (by decide), b6] at q
      exact absurd q (by decide)
  · rw [pC_n _ _ (by decide)]; exact lA
  · rintro k t1 t2 hk ⟨y, c, m, rfl, rfl, hR⟩
    have hC : RC n ((pC cA 27 ch2) 27) mB := by rw [pC_s]; exact u5.1.2.1
    obtain ⟨v, c', m', w1, w2, w3⟩ := settle_1 hC hk hR
    obtain ⟨m0, l0, V0, hz, e0, h1, h2⟩ := hR
    have e157 : m 1 157 = nI n := by rw [e0, upd_n _ _ (by decide)]; exact V0.1
    dsimp only
    refine ⟨(y + v, nI (k + 1), c'), (y + v, nI (k + 1), m'), ?_, ?_, _, _, _, rfl, rfl, w3⟩
    · unfold f_X6_round_B72
      rw [opeople, ly_158 l0, V0.1, Option.bind_some, ifle (by omega) (by omega), if_neg (by omega), w1, Option.bind_some, nI_1]
    · unfold f_X7_round_B66
      rw [rd_157, e157, Option.bind_some, ifle (by omega) (by omega), if_neg (by omega), nI_1]
      obtain ⟨x84, z1, w2⟩ := Option.bind_eq_some_iff.mp w2
      obtain ⟨k104, z2, w2⟩ := Option.bind_eq_some_iff.mp w2
      obtain ⟨r108, z3, w2⟩ := Option.bind_eq_some_iff.mp w2
      rw [z1, Option.bind_some, z2, Option.bind_some, z3, Option.bind_some]
      cases w2
      rfl
  · rintro t1 t2 ⟨y, c, m, rfl, rfl, m0, l0, V0, hz, e0, h1, h2⟩
    have e157 : m 1 157 = nI n := by rw [e0, upd_n _ _ (by decide)]; exact V0.1
    dsimp only
    unfold f_X6_round_B72 f_X7_round_B66
    rw [opeople, ly_158 l0, V0.1, Option.bind_some, ifle (by omega) (by omega), if_pos (by omega), rd_157, e157, Option.bind_some, ifle (by omega) (by omega), if_pos (by omega)]
    exact ⟨rfl, rfl⟩
