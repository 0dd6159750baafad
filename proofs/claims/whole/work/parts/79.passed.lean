/-! PURE PART: passed, successor, by -/
theorem or0 (x : Int32) : x ||| 0 = x := b_ext (fun i _ => by rw [b_or, b_0, Bool.or_false])
theorem cpy_lt {f g : Nat → Int32} {i : Nat} (h : i < 159) : va_cpy f g 0 0 159 i = f i := by rw [pk_cpy_in (by omega) (by omega), Nat.sub_zero, Nat.zero_add]
theorem lay_cpy {c m : Nat → Int32} (g : Nat → Int32) (h : lay c m) : lay (va_cpy c g 0 0 159) m := lay_cg h (fun i hi => cpy_lt hi) (fun _ _ => rfl)
theorem op_passed {cm : CM} {mm : MM} (h : INV cm mm) (a1 : Int32) : EQ2 (f_X6_passed cm a1) (f_X7_passed mm a1) := by
  obtain ⟨cm', n, mm1, mm2, p1, p2, l, V, p3, p4, c1, c2, c3, d1, d2, d3⟩ := h.ask
  have hn := V.2.1
  unfold f_X6_passed f_X7_passed
  rcases prsn (cm := cm) (by rw [← p3]; exact l) V a1 with ⟨p, hpn, rfl, q1, q2⟩ | ⟨-, q1, q2⟩
  rotate_left
  · rw [q1, q2, Option.bind_some, Option.bind_some, i00, i00]
    exact EQ2.k h _
  obtain ⟨s1, s2, -⟩ := c2.out
  have hp : p < 16 := by omega
  have e1 : mm1 1 = mm 1 := s1.2.1
  rw [q1, q2, Option.bind_some, Option.bind_some, i10, i10, p1, Option.bind_some, oactive hp, Option.bind_some, mactive hp, Option.bind_some, ly_64 l hp]
  by_cases ha : 2 < mm 1 (8 * p + 4)
  · rw [if_pos ha, i00, i00]
    exact EQ2.k p2 _
  rw [if_neg ha, i10, i10, ohas' (by omega), Option.bind_some]
  unfold f_X7_isChosen
  rw [c1, Option.bind_some, rd_nI _ (by omega) (by omega), Option.bind_some]
  obtain ⟨-, -, -, -, r5⟩ := s2.1 p hpn
  by_cases h9 : mm1 8 p = -9
  rotate_left
  · rw [if_neg h9, if_pos (r5.mpr h9), i10, Option.bind_some]
    dsimp only
    rw [i10]
    exact ⟨_, _, _, rfl, rfl, p2.km c3⟩
  rw [if_pos h9, if_neg (fun q => r5.mp q h9), i00, Option.bind_some]
  dsimp only
  rw [i00]
  have key := itr2_for (st1 := fun s : Int32 × Int32 => f_X6_passed_B42 (nI p) cm' s.1 s.2) (st2 := fun s : Int32 × Int32 => f_X7_passed_B33 (nI p) ((0 : Int32), mm1) s.1 s.2) (fun k t1 t2 => ∃ x, t1 = (x, nI k) ∧ t2 = (x, nI k)) n (0, 0) (0, 0) (by omega) ⟨_, rfl, rfl⟩ ?_ ?_
  · obtain ⟨t1, t2, i1, i2, x, rfl, rfl⟩ := key
    rw [i1, i2, Option.bind_some, Option.bind_some]
    exact ⟨_, _, _, rfl, rfl, p2.km c3⟩
  · rintro k t1 t2 hk ⟨x, rfl, rfl⟩
    obtain ⟨-, -, -, -, rk⟩ := s2.1 k hk
    have ek : (kyC (cm' 1 1) p < kyC (cm' 1 1) k) = (kyM (mm1 1) p < kyM (mm1 1) k) := by rw [lay_ky l hp, lay_ky l (show k < 16 by omega), e1]
    dsimp only
    unfold f_X6_passed_B42 f_X7_passed_B33
    dsimp only
    rw [opeople, ly_158 l, V.1, Option.bind_some, ifle (by omega) (by omega), if_neg (by omega), ohas' (by omega), Option.bind_some, rd_157, e1, V.1, Option.bind_some, ifle (by omega) (by omega), if_neg (show ¬ n ≤ k by omega), rd_nI _ (by omega) (by omega), Option.bind_some, or0, nI_1]
    by_cases hb : mm1 8 k = -9
    · rw [if_pos hb, if_neg (fun q => rk.mp q hb), i00]
      exact ⟨_, _, rfl, rfl, _, rfl, rfl⟩
    · rw [if_neg hb, if_pos (rk.mpr hb), i10, oahead (lay_mt l V) hpn hk hn, Option.bind_some, mahead (by rw [e1]; exact V.mt) hpn hk hn, Option.bind_some, if10, if10]
      by_cases hx : kyM (mm1 1) p < kyM (mm1 1) k
      · rw [if_pos hx, if_pos (ek.mpr hx)]
        exact ⟨_, _, rfl, rfl, _, rfl, rfl⟩
      · rw [if_neg hx, if_neg (fun q => hx (ek.mp q))]
        exact ⟨_, _, rfl, rfl, _, rfl, rfl⟩
  · rintro t1 t2 ⟨x, rfl, rfl⟩
    dsimp only
    unfold f_X6_passed_B42 f_X7_passed_B33
    dsimp only
    rw [opeople, ly_158 l, V.1, Option.bind_some, ifle (by omega) (by omega), if_pos (by omega), rd_157, e1, V.1, Option.bind_some, ifle (by omega) (by omega), if_pos (by omega)]
    exact ⟨rfl, rfl⟩
theorem ky_u {m : Nat → Int32} {j : Nat} {v : Int32} (h : ∀ q, q < 16 → j ≠ 8 * q ∧ j ≠ 8 * q + 1) {n : Nat} (hn : n ≤ 16) : srt (kyM (upd m j v)) n = srt (kyM m) n := by
  have e : ∀ q, q < n → kyM (upd m j v) q = kyM m q := fun q hq => by
    obtain ⟨h1, h2⟩ := h q (by omega)
    unfold kyM kyN
    dsimp only
    rw [upd_n _ _ (Ne.symm h1), upd_n _ _ (Ne.symm h2)]
  exact srt_congr n (fun p q hp hq => by rw [e p hp, e q hq])
theorem op_successor {cm : CM} {mm : MM} (h : INV cm mm) (a1 : Int32) : EQ2 (f_X6_successor cm a1) (f_X7_successor mm a1) := by
  obtain ⟨cm', n, mm1, mm2, p1, p2, l, V, p3, p4, c1, c2, c3, d1, d2, d3⟩ := h.ask
  have hn := V.2.1
  unfold f_X6_successor f_X7_successor
  rcases prsn (cm := cm) (by rw [← p3]; exact l) V a1 with ⟨p, hpn, rfl, q1, q2⟩ | ⟨-, q1, q2⟩
  rotate_left
  · rw [q1, q2, Option.bind_some, Option.bind_some, i00, i00]
    exact EQ2.k h _
  obtain ⟨s1, s2, s3, -⟩ := c2.out
  have hp : p < 16 := by omega
  have e1 : mm1 1 = mm 1 := s1.2.1
  obtain ⟨-, -, -, -, r5⟩ := s2.1 p hpn
  rw [q1, q2, Option.bind_some, Option.bind_some, i10, i10, p1, Option.bind_some, ohas' (by omega), Option.bind_some, mactive hp, Option.bind_some]
  by_cases ha : 2 < mm 1 (8 * p + 4)
  · have : mm1 8 p = -9 := Decidable.not_not.mp (fun q => s3.2 p hpn q (by rw [e1]; exact ha))
    rw [if_pos ha, if_neg (fun q => r5.mp q this), i00, i00]
    exact EQ2.k p2 _
  rw [if_neg ha, i10]
  unfold f_X7_isChosen
  rw [c1, Option.bind_some, rd_nI _ (by omega) (by omega), Option.bind_some]
  by_cases h9 : mm1 8 p = -9
  · rw [if_pos h9, if_neg (fun q => r5.mp q h9), i00, Option.bind_some]
    dsimp only
    rw [i00]
    exact ⟨_, _, _, rfl, rfl, p2.km c3⟩
  rw [if_neg h9, if_pos (r5.mpr h9), i10, Option.bind_some]
  dsimp only
  rw [i10]
  have hch1 := mchosen hn (by rw [e1]; exact V.1) s2
  have hl' : lay (upd (va_cpy (cm' 1 1) (cm' 28 1) 0 0 159) (64 + p) 4) (upd (mm 1) (8 * p + 4) 4) := lay_up (f := 4) (lay_cpy _ l) hp (by omega) 4
  have hV' : VM (upd (mm 1) (8 * p + 4) 4) n := V.pp hp (fun i hi hne => by rw [upd_n _ _ (by omega)]) (fun hk => VP_4 (V.2.2.1 p hk) ⟨4, by omega, rfl⟩)
  have hrk : srt (kyM (upd (mm 1) (8 * p + 4) 4)) n = srt (kyM (mm 1)) n := ky_u (fun q hq => by omega) hn
  obtain ⟨ch, t1, t2, t3, t4⟩ := tri (cm := u3 (u3 cm' 28 1 (va_cpy (cm' 1 1) (cm' 28 1) 0 0 159)) 28 1 (upd (va_cpy (cm' 1 1) (cm' 28 1) 0 0 159) (64 + p) 4)) (C := 29) (o := 28) (n := n) (by decide) (by rw [u3_s]; exact OF_of hl' hV')
  obtain ⟨mm3, u1, u2', u3', u4, u5⟩ := t4 (u2 mm1 1 (upd (mm 1) (8 * p + 4) 4)) (u2_s _ _ _)
  have e3 : mm3 1 = upd (mm 1) (8 * p + 4) 4 := u3'.1.trans (u2_s _ _ _)
  unfold f_X3_copyFrom
  rw [Option.bind_some, os_64 hp, u3_s, Option.bind_some, t1, Option.bind_some, hch1, Option.bind_some, mo_4 hp, e1, Option.bind_some, mb_4 hp, e1, Option.bind_some, u1, Option.bind_some, mb_4 hp, e3, upd_upd, upd_self, Option.bind_some]
  have hW4 : RW n ch (u2 mm3 1 (mm 1)) := by
    have := u2'.1.2.1.w
    unfold RW at this ⊢
    rw [u2_n (p := 1) (b := 8) _ _ (by decide), u2_n (p := 1) (b := 10) _ _ (by decide)]
    exact this
  have hch4 := mchosen (mm := u2 mm3 1 (mm 1)) hn (by rw [u2_s]; exact V.1) hW4
  rw [hch4, Option.bind_some]
  have hR := okR_srt (kyM (mm 1)) n
  have key := itr2 (st1 := fun s : Int32 => f_X6_successor_B61 (pC (u3 (u3 cm' 28 1 (va_cpy (cm' 1 1) (cm' 28 1) 0 0 159)) 28 1 (upd (va_cpy (cm' 1 1) (cm' 28 1) 0 0 159) (64 + p) 4)) 29 ch) s) (st2 := fun s : Int32 => f_X7_successor_B72 (cm' 27 0 11) (u2 mm3 1 (mm 1)) (ch 0 11) s)
    (fun k t1 t2 => t1 = nI k ∧ t2 = nI k) (fun o1 o2 => (∃ a b, o1 = .inl a ∧ o2 = .inl b) ∨ ∃ x, o1 = .inr (x, pC (u3 (u3 cm' 28 1 (va_cpy (cm' 1 1) (cm' 28 1) 0 0 159)) 28 1 (upd (va_cpy (cm' 1 1) (cm' 28 1) 0 0 159) (64 + p) 4)) 29 ch) ∧ o2 = .inr (x, u2 mm3 1 (mm 1))) n ?_ ?_ 2000 0 0 0 (Nat.zero_le _) (by omega) ⟨rfl, rfl⟩
  · have hfin : INV (pC (u3 (u3 cm' 28 1 (va_cpy (cm' 1 1) (cm' 28 1) 0 0 159)) 28 1 (upd (va_cpy (cm' 1 1) (cm' 28 1) 0 0 159) (64 + p) 4)) 29 ch) (u2 mm3 1 (mm 1)) := by
      refine p2.kp (fun o ho => by rw [pC_n _ _ (by omega), u3_o (by omega), u3_o (by omega)]) (u2_s _ _ _) ?_ ?_ ?_
      · rw [u2_n _ _ (by decide), u3'.2.1, u2_n _ _ (by decide)]; exact c3.2.1
      · rw [u2_n _ _ (by decide), u3'.2.2.2.1, u2_n _ _ (by decide)]; exact c3.2.2.2.1
      · rw [u2_n _ _ (by decide), u3'.2.2.2.2, u2_n _ _ (by decide)]; exact c3.2.2.2.2
    obtain ⟨o1, o2, i1, i2, hq⟩ := key
    rw [i1, i2, Option.bind_some, Option.bind_some]
    rcases hq with ⟨a, b, rfl, rfl⟩ | ⟨x, rfl, rfl⟩
    · exact ⟨_, _, _, rfl, rfl, hfin⟩
    · exact ⟨_, _, _, rfl, rfl, hfin⟩
  · rintro r t1 t2 hr ⟨rfl, rfl⟩
    obtain ⟨q, hq⟩ : ∃ q, (srt (kyM (mm 1)) n)[r]? = some q := ⟨(srt (kyM (mm 1)) n)[r]'(by rw [hR.1]; exact hr), List.getElem?_eq_getElem _⟩
    have hqn : q < n := (hR.2.2 q).mp (List.mem_of_getElem? hq)
    have ep : (pC (u3 (u3 cm' 28 1 (va_cpy (cm' 1 1) (cm' 28 1) 0 0 159)) 28 1 (upd (va_cpy (cm' 1 1) (cm' 28 1) 0 0 159) (64 + p) 4)) 29 ch) 27 = cm' 27 := by rw [pC_n _ _ (by decide), u3_o (by decide), u3_o (by decide)]
    have eo : (pC (u3 (u3 cm' 28 1 (va_cpy (cm' 1 1) (cm' 28 1) 0 0 159)) 28 1 (upd (va_cpy (cm' 1 1) (cm' 28 1) 0 0 159) (64 + p) 4)) 29 ch) 1 = cm' 1 := by rw [pC_n _ _ (by decide), u3_o (by decide), u3_o (by decide)]
    have eg : (pC (u3 (u3 cm' 28 1 (va_cpy (cm' 1 1) (cm' 28 1) 0 0 159)) 28 1 (upd (va_cpy (cm' 1 1) (cm' 28 1) 0 0 159) (64 + p) 4)) 29 ch) 29 = ch := pC_s _ _ _
    generalize pC (u3 (u3 cm' 28 1 (va_cpy (cm' 1 1) (cm' 28 1) 0 0 159)) 28 1 (upd (va_cpy (cm' 1 1) (cm' 28 1) 0 0 159) (64 + p) 4)) 29 ch = cf at *
    have h3 : mm3 3 r = nI q := (u2'.1.1.2.2.1 r q (by rw [hrk]; exact hq)).2
    unfold f_X6_successor_B61 f_X7_successor_B72
    rw [opeople, eo, ly_158 l, V.1, Option.bind_some, ifle (by omega) (by omega), if_neg (by omega), opers' (by omega) (by rw [ep]; exact (s1.2.2.1 r q hq).1), Option.bind_some, ohas' (by omega), ep, Option.bind_some, ohas' (by omega), eg, Option.bind_some, rd_157, u2_s, V.1, Option.bind_some, ifle (by omega) (by omega), if_neg (show ¬ n ≤ r by omega), u2_n (p := 1) (b := 3) _ _ (by decide), rd_nI _ (by omega) (by omega), h3, Option.bind_some, Option.bind_some, isin, Option.bind_some, bit1 (by omega), if10, if10, if11, bt_not (by omega), nI_1]
    by_cases b1 : bt (cm' 27 0 11) q = true
    · rw [if_pos b1, if_neg (by rw [b1]; simp)]
      exact Or.inl ⟨_, _, rfl, rfl, rfl, rfl⟩
    · rw [if_neg b1]
      by_cases b2 : bt (ch 0 11) q = true
      · rw [if_pos b2, if_pos (by rw [b2]; simpa using b1)]
        exact Or.inr ⟨_, _, rfl, rfl, Or.inr ⟨_, rfl, rfl⟩⟩
      · rw [if_neg b2, if_neg (by simp [b2])]
        exact Or.inl ⟨_, _, rfl, rfl, rfl, rfl⟩
  · rintro t1 t2 ⟨rfl, rfl⟩
    have eo : (pC (u3 (u3 cm' 28 1 (va_cpy (cm' 1 1) (cm' 28 1) 0 0 159)) 28 1 (upd (va_cpy (cm' 1 1) (cm' 28 1) 0 0 159) (64 + p) 4)) 29 ch) 1 = cm' 1 := by rw [pC_n _ _ (by decide), u3_o (by decide), u3_o (by decide)]
    unfold f_X6_successor_B61 f_X7_successor_B72
    rw [opeople, eo, ly_158 l, V.1, Option.bind_some, ifle (by omega) (by omega), if_pos (by omega), rd_157, u2_s, V.1, Option.bind_some, ifle (by omega) (by omega), if_pos (by omega)]
    exact ⟨_, _, rfl, rfl, Or.inl ⟨_, _, rfl, rfl⟩⟩
