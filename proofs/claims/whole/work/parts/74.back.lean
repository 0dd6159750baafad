/-! PURE PART: back; calls that ask the office alone -/
theorem orestore {cm : CM} {a b : Nat} (ha : a < 24) (hb : b + 1 ≤ 24) (h1 : cm 2 0 1 = nI a) (h2 : cm 2 0 2 = nI (b + 1)) :
    ∃ cm', f_X2_restore cm 1 = some cm' ∧ (∀ o, o ≠ 1 → o ≠ 2 → cm' o = cm o) ∧ cm' 2 0 1 = nI ((a + 23) % 24) ∧ cm' 2 0 2 = nI b ∧ ∀ j, j < 159 → cm' 1 1 j = cm (3 + (a + 23) % 24) 1 j := by
  have hx : ((if (nI a) = 0 then some 23 else some ((nI a) - 1)) : Option Int32) = some (nI ((a + 23) % 24)) := by
    by_cases h : a = 0
    · subst h; rfl
    · obtain ⟨y, rfl⟩ : ∃ y, a = y + 1 := ⟨a - 1, by omega⟩
      rw [if_neg (show ¬ nI (y + 1) = 0 from nI_ne0 (by omega) (by omega)), nI_pred, show (y + 1 + 23) % 24 = y by omega]
  have hlt : (a + 23) % 24 < 24 := Nat.mod_lt _ (by omega)
  generalize hi : (a + 23) % 24 = i at *
  have e2 : (u3 cm 1 1 (va_cpy (cm (3 + i) 1) (cm 1 1) 0 0 159)) 2 = cm 2 := u3_o (by omega)
  refine ⟨pC (u3 cm 1 1 (va_cpy (cm (3 + i) 1) (cm 1 1) 0 0 159)) 2 (u2 (u2 (cm 2) 0 (upd (cm 2 0) 1 (nI i))) 0 (upd ((u2 (cm 2) 0 (upd (cm 2 0) 1 (nI i))) 0) 2 (nI b))), ?_, fun o h1 h2 => ?_, ?_, ?_, fun j hj => ?_⟩
  · unfold f_X2_restore
    rw [h1, hx, Option.bind_some, page_y hlt, Option.bind_some]
    dsimp only
    rw [h2, if_neg (nI_nle (by omega) (by omega))]
    unfold f_X3_copyFrom
    rw [Option.bind_some, u3_pC, u3_pC, pC_s, pC_pC, e2, u2_s, upd_n _ _ (by decide), h2, nI_pred]
  · rw [pC_n _ _ h2, u3_o h1]
  · rw [pC_s, u2_s, upd_n _ _ (by decide), u2_s, upd_s]
  · rw [pC_s, u2_s, upd_s]
  · rw [pC_n _ _ (by omega), u3_s, pk_cpy_in (by omega) (by omega), Nat.sub_zero, Nat.zero_add]
theorem mback {mm : MM} {a : Nat} (ha : a < 24) (h3 : mm 0 3 = nI a) : ∃ x mm', itr (fun s : Int32 × MM => f_X7_back_B47 s.1 s.2) 2000 (0, mm) = some (x, mm') ∧ keeps [1] mm mm' ∧ ∀ j, j < 159 → mm' 1 j = pg mm a j := by
  have key := itr_for (step := fun s : Int32 × MM => f_X7_back_B47 s.1 s.2)
    (fun k s => s.1 = nI k ∧ keeps [1] mm s.2 ∧ ∀ j, j < k → s.2 1 j = pg mm a j) 159 (0, mm) (by omega) ⟨rfl, keeps.rf _ _, fun j hj => by omega⟩ ?_ ?_
  · obtain ⟨⟨x, m1⟩, hI, -, k1, k2⟩ := key
    exact ⟨x, m1, hI, k1, k2⟩
  · rintro k ⟨x, m1⟩ hk ⟨e, k1, k2⟩
    dsimp only at e k1 k2
    subst e
    dsimp only
    refine ⟨(nI (k + 1), u2 m1 1 (upd (m1 1) k (pg mm a k))), ?_, rfl, k1.up (by decide), fun j hj => ?_⟩
    · unfold f_X7_back_B47 pg
      rw [show (159 : Int32) = nI 159 from rfl, ifle (by omega) (by omega), if_neg (by omega), k1 0 (by decide), h3, pk_mul, nI_add, rd_nI _ (by omega) (by omega), k1 2 (by decide), Option.bind_some, wr_nI _ _ (by omega) (by omega), Option.bind_some, nI_1]
    · dsimp only
      rw [u2_s]
      by_cases e : j = k
      · subst e; exact upd_s _ _ _
      · rw [upd_n _ _ e]; exact k2 j (by omega)
  · rintro ⟨x, m1⟩ ⟨e, k1, -⟩
    dsimp only at e
    subst e
    dsimp only
    unfold f_X7_back_B47
    rw [if_pos (by decide)]
theorem lay_cg {c c' m m' : Nat → Int32} (h : lay c m) (h1 : ∀ i, i < 159 → c' i = c i) (h2 : ∀ i, i < 159 → m' i = m i) : lay c' m' := fun i hi => by rw [h1 i hi, h2 _ (mi_lt hi)]; exact h i hi
theorem op_back {cm : CM} {mm : MM} (h : INV cm mm) (a1 : Int32) : EQ2 (f_X6_back cm a1) (f_X7_back mm a1) := by
  have h' := h
  obtain ⟨n, l, V, R, -⟩ := h
  obtain ⟨a, b, g1, g2, g3, g4, g5, g6, g7⟩ := R
  unfold f_X6_back f_X7_back f_X2_size
  rw [Option.bind_some, g5, g6]
  rcases wtn a1 (nI b) (b := b) rfl (by omega) with ⟨v, hv, rfl, q1, q2⟩ | ⟨-, q1, q2⟩
  rotate_left
  · rw [q1, q2, Option.bind_some, Option.bind_some, i00, i00]
    exact EQ2.k h' _
  rw [q1, q2, Option.bind_some, Option.bind_some, i10, i10]
  have key := itr_for (step := fun s : Int32 × CM => f_X6_back_B19 (nI v) s.1 s.2)
    (fun i s => s.1 = nI i ∧ (∀ o, o ≠ 1 → o ≠ 2 → s.2 o = cm o) ∧ s.2 2 0 1 = nI ((a + 24 - i) % 24) ∧ s.2 2 0 2 = nI (b - i) ∧ ∀ j, j < 159 → s.2 1 1 j = if i = 0 then cm 1 1 j else cm (3 + (a + 24 - i) % 24) 1 j) v (0, cm) (by omega) ⟨rfl, fun _ _ _ => rfl, by rw [show (a + 24 - 0) % 24 = a by omega]; exact g3, g5, fun j hj => by rw [if_pos rfl]⟩ ?_ ?_
  · obtain ⟨⟨x, c1⟩, hI, -, k1, k2, k3, k4⟩ := key
    dsimp only at k1 k2 k3 k4
    rw [hI, Option.bind_some]
    dsimp only
    rw [Option.bind_some]
    have ec : ∀ o, o ≠ 1 → o ≠ 2 → o ≠ 0 → (u3 c1 0 0 (upd (c1 0 0) 7 1)) o = cm o := fun o h1 h2 h3 => by rw [u3_o h3]; exact k1 o h1 h2
    have e1 : (u3 c1 0 0 (upd (c1 0 0) 7 1)) 1 = c1 1 := u3_o (by omega)
    have e2 : (u3 c1 0 0 (upd (c1 0 0) 7 1)) 2 = c1 2 := u3_o (by omega)
    have e0 : (u3 c1 0 0 (upd (c1 0 0) 7 1)) 0 0 7 = 1 := by rw [u3_s, upd_s]
    rw [e2, k3]
    generalize u3 c1 0 0 (upd (c1 0 0) 7 1) = cf at *
    by_cases hz : v = 0
    · subst hz
      rw [if_pos (show nI 0 ≤ 0 by decide)]
      refine ⟨nI b, cf, mm, rfl, rfl, n, ?_, V, ⟨a, b, g1, g2, by rw [e2, k2, show (a + 24 - 0) % 24 = a by omega], g4, by rw [e2, k3]; rfl, g6, fun d h1 h2 => ?_⟩, fun q => by rw [e0] at q; exact absurd q (by decide)⟩
      · rw [e1]
        exact lay_cg l (fun i hi => by rw [k4 i hi, if_pos rfl]) (fun _ _ => rfl)
      · have := g7 d h1 h2
        unfold PG at this ⊢
        rw [ec _ (by omega) (by omega) (by omega)]
        exact this
    · have hlt : (a + 24 - v) % 24 < 24 := Nat.mod_lt _ (by omega)
      rw [if_neg (nI_nle (by omega) (by omega)), g4, show nI a - nI v + 24 = nI (a + 24 - v) by
        rw [← pk_sub (show v ≤ a + 24 by omega), ← nI_add, Int32.sub_eq_add_neg, Int32.sub_eq_add_neg, Int32.add_assoc, Int32.add_assoc, Int32.add_comm (-nI v)]; rfl, show (24 : Int32) = nI 24 from rfl, rmI_nI (by omega) (by omega) (by omega), Option.bind_some, u2_s, upd_n _ _ (by decide), g6, pk_sub hv, u2_u2]
      obtain ⟨x2, m2, i2, j1, j2⟩ := mback (mm := u2 mm 0 (upd (upd (mm 0) 3 (nI ((a + 24 - v) % 24))) 2 (nI (b - v)))) hlt (by rw [u2_s, upd_n _ _ (by decide), upd_s])
      rw [i2, Option.bind_some]
      dsimp only
      have f2 : m2 2 = mm 2 := by rw [j1 2 (by decide), u2_n _ _ (by decide)]
      have f02 : m2 0 2 = nI (b - v) := by rw [j1 0 (by decide), u2_s, upd_s]
      have f03 : m2 0 3 = nI ((a + 24 - v) % 24) := by rw [j1 0 (by decide), u2_s, upd_n _ _ (by decide), upd_s]
      have fpg : ∀ i j, pg m2 i j = pg mm i j := fun i j => by unfold pg; rw [f2]
      have j2' : ∀ j, j < 159 → m2 1 j = pg mm ((a + 24 - v) % 24) j := fun j hj => by
        rw [j2 j hj]
        unfold pg
        rw [u2_n _ _ (by decide)]
      obtain ⟨p1, n', p2⟩ := g7 v (by omega) hv
      refine ⟨nI (b - v), cf, m2, rfl, by rw [f02], n', ?_, p2.cg j2', ⟨(a + 24 - v) % 24, b - v, hlt, by omega, by rw [e2, k2], f03, by rw [e2, k3], f02, fun d h1 h2 => ?_⟩, fun q => by rw [e0] at q; exact absurd q (by decide)⟩
      · rw [e1]
        exact lay_cg p1 (fun i hi => by rw [k4 i hi, if_neg hz]) j2'
      · have := g7 (v + d) (by omega) (by omega)
        rw [show ((a + 24 - v) % 24 + 24 - d) % 24 = (a + 24 - (v + d)) % 24 by omega]
        unfold PG at this ⊢
        rw [ec _ (by omega) (by omega) (by omega), show pg m2 ((a + 24 - (v + d)) % 24) = pg mm ((a + 24 - (v + d)) % 24) from funext (fpg _)]
        exact this
  · rintro i ⟨x, c1⟩ hi ⟨e, k1, k2, k3, k4⟩
    dsimp only at e k1 k2 k3 k4
    subst e
    dsimp only
    obtain ⟨c2, r1, r2, r3, r4, r5⟩ := orestore (cm := c1) (a := (a + 24 - i) % 24) (b := b - i - 1) (Nat.mod_lt _ (by omega)) (by omega) k2 (by rw [show b - i - 1 + 1 = b - i by omega]; exact k3)
    have em : ((a + 24 - i) % 24 + 23) % 24 = (a + 24 - (i + 1)) % 24 := by omega
    rw [em] at r3 r5
    refine ⟨(nI (i + 1), c2), ?_, rfl, fun o h1 h2 => (r2 o h1 h2).trans (k1 o h1 h2), r3, by rw [show b - (i + 1) = b - i - 1 by omega]; exact r4, fun j hj => ?_⟩
    · unfold f_X6_back_B19
      rw [ifle (by omega) (by omega), if_neg (by omega), r1, Option.bind_some, nI_1]
    · dsimp only
      rw [if_neg (by omega), r5 j hj, k1 _ (by omega) (by omega)]
  · rintro ⟨x, c1⟩ ⟨e, -⟩
    dsimp only at e
    subst e
    dsimp only
    unfold f_X6_back_B19
    rw [ifle (by omega) (by omega), if_pos (by omega)]
/-! calls that ask the office alone -/
def EQ1 (x y : Option Int32) : Prop := ∃ r, x = some r ∧ y = some r
theorem op_note {cm : CM} {mm : MM} (h : INV cm mm) (a1 a2 : Int32) : EQ1 (f_X6_note cm a1 a2) (f_X7_note mm a1 a2) := by
  obtain ⟨n, l, V, R, -⟩ := h
  have hn := V.2.1
  unfold f_X6_note f_X7_note
  rcases prsn l V a1 with ⟨p, hpn, rfl, q1, q2⟩ | ⟨-, q1, q2⟩
  rotate_left
  · rw [q1, q2, Option.bind_some, Option.bind_some, i00, i00]
    exact ⟨_, rfl, rfl⟩
  have hp : p < 16 := by omega
  rw [q1, q2, Option.bind_some, Option.bind_some, i10, i10]
  rcases wtn a2 2 (b := 2) rfl (by omega) with ⟨v, hv, rfl, w1, w2⟩ | ⟨w0, w1, w2⟩
  · rw [w2, Option.bind_some, i10, show (5 : Int32) + nI v = nI (5 + v) from nI_add 5 v, mof hp (by omega), Option.bind_some]
    have hc : ∀ w, w < 8 → cm 1 1 (16 * w + p) = mm 1 (8 * p + w) := fun w hw => ly_p l hp hw
    rcases v with _ | _ | _ | v
    · rw [if_pos (by decide), og_80 hp, Option.bind_some]
      exact ⟨_, rfl, by rw [← hc 5 (by omega)]⟩
    · rw [if_neg (by decide), if_pos (by decide), og_96 hp, Option.bind_some]
      exact ⟨_, rfl, by rw [← hc 6 (by omega)]⟩
    · rw [if_neg (by decide), if_neg (by decide), if_pos (by decide), og_112 hp, Option.bind_some]
      exact ⟨_, rfl, by rw [← hc 7 (by omega)]⟩
    · omega
  · rw [w2, Option.bind_some, i00, if_neg (show ¬ a2 = 0 from w0 0 (by omega)), if_neg (show ¬ a2 = 1 from w0 1 (by omega)), if_neg (show ¬ a2 = 2 from w0 2 (by omega))]
    exact ⟨_, rfl, rfl⟩
theorem ahead_2 {cm : CM} {mm : MM} {n p : Nat} (l : lay (cm 1 1) (mm 1)) (V : VM (mm 1) n) (hp : p < n) : EQ1 (f_X3_countAhead cm 1 (nI p)) (f_X7_aheadOf mm (nI p)) := by
  have hn := V.2.1
  rw [ocountAhead (lay_mt l V) (by rw [ly_158 l]; exact V.1) hp hn, maheadOf V.mt V.1 hp hn]
  have e : cntP (fun q => decide (kyC (cm 1 1) q < kyC (cm 1 1) p)) n = cntP (fun q => decide (kyM (mm 1) q < kyM (mm 1) p)) n := cntP_congr n (fun i hi => by rw [lay_ky l (show i < 16 by omega), lay_ky l (show p < 16 by omega)])
  rw [e]
  exact ⟨_, rfl, rfl⟩
theorem op_ofPerson {cm : CM} {mm : MM} (h : INV cm mm) (a1 a2 : Int32) : EQ1 (f_X6_ofPerson cm a1 a2) (f_X7_ofPerson mm a1 a2) := by
  obtain ⟨n, l, V, R, -⟩ := h
  have hn := V.2.1
  unfold f_X6_ofPerson f_X7_ofPerson
  rcases prsn l V a1 with ⟨p, hpn, rfl, q1, q2⟩ | ⟨-, q1, q2⟩
  rotate_left
  · rw [q1, q2, Option.bind_some, Option.bind_some, i00, i00]
    exact ⟨_, rfl, rfl⟩
  have hp : p < 16 := by omega
  rw [q1, q2, Option.bind_some, Option.bind_some, i10, i10]
  rcases wtn a2 5 (b := 5) rfl (by omega) with ⟨v, hv, rfl, w1, w2⟩ | ⟨w0, w1, w2⟩
  · rw [w2, Option.bind_some, i10]
    have hc : ∀ w, w < 8 → cm 1 1 (16 * w + p) = mm 1 (8 * p + w) := fun w hw => ly_p l hp hw
    by_cases h5 : v = 5
    · subst h5
      rw [if_neg (by decide), if_neg (by decide), if_neg (by decide), if_neg (by decide), if_neg (by decide), if_pos (by decide), if_pos (by decide)]
      obtain ⟨r, e1, e2⟩ := ahead_2 l V hpn
      rw [e1, e2, Option.bind_some]
      exact ⟨_, rfl, rfl⟩
    · rw [if_neg (show ¬ nI v = 5 from fun q => h5 ((nI_eq (b := 5) (by omega) (by omega)).mp q)), mof hp (by omega), Option.bind_some]
      rcases v with _ | _ | _ | _ | _ | v
      · rw [if_pos (by decide), og_0 hp, Option.bind_some]
        exact ⟨_, rfl, by rw [ly_0 l hp]; rfl⟩
      · rw [if_neg (by decide), if_pos (by decide), og_16 hp, Option.bind_some]
        exact ⟨_, rfl, congrArg some (hc 1 (by omega)).symm⟩
      · rw [if_neg (by decide), if_neg (by decide), if_pos (by decide), og_32 hp, Option.bind_some]
        exact ⟨_, rfl, congrArg some (hc 2 (by omega)).symm⟩
      · rw [if_neg (by decide), if_neg (by decide), if_neg (by decide), if_pos (by decide), og_48 hp, Option.bind_some]
        exact ⟨_, rfl, congrArg some (hc 3 (by omega)).symm⟩
      · rw [if_neg (by decide), if_neg (by decide), if_neg (by decide), if_neg (by decide), if_pos (by decide), og_64 hp, Option.bind_some]
        exact ⟨_, rfl, congrArg some (hc 4 (by omega)).symm⟩
      · omega
  · rw [w2, Option.bind_some, i00, if_neg (show ¬ a2 = 0 from w0 0 (by omega)), if_neg (show ¬ a2 = 1 from w0 1 (by omega)), if_neg (show ¬ a2 = 2 from w0 2 (by omega)), if_neg (show ¬ a2 = 3 from w0 3 (by omega)), if_neg (show ¬ a2 = 4 from w0 4 (by omega)), if_neg (show ¬ a2 = 5 from w0 5 (by omega))]
    exact ⟨_, rfl, rfl⟩
theorem ocountWith {cm : CM} {o n base : Nat} {part v : Int32} (hn : n ≤ 16) (hc : cm o 1 158 = nI n) (hg : ∀ i, i < n → f_X3_get cm o part (nI i) = some (cm o 1 (base + i))) : f_X3_countWith cm o part v = some (nI (cntP (fun i => decide (cm o 1 (base + i) = v)) n)) := by
  unfold f_X3_countWith
  rw [itr_cnt (fun i => decide (cm o 1 (base + i) = v)) n (by omega) ?_ ?_, Option.bind_some]
  · intro i c hi _
    dsimp only
    unfold f_X3_countWith_B5
    rw [opeople, hc, Option.bind_some, ifle (by omega) (by omega), if_neg (by omega), hg i hi, Option.bind_some, nI_1, nI_1]
    by_cases h : cm o 1 (base + i) = v
    · rw [if_pos h, if_pos (decide_eq_true h)]
    · rw [if_neg h, if_neg (by rw [decide_eq_true_eq]; exact h)]; rfl
  · intro c
    dsimp only
    unfold f_X3_countWith_B5
    rw [opeople, hc, Option.bind_some, ifle (by omega) (by omega), if_pos (by omega)]
theorem op_alike {cm : CM} {mm : MM} (h : INV cm mm) (a1 : Int32) : EQ1 (f_X6_alike cm a1) (f_X7_alike mm a1) := by
  obtain ⟨n, l, V, R, -⟩ := h
  have hn := V.2.1
  unfold f_X6_alike f_X7_alike
  rcases wtn a1 99 (b := 99) rfl (by omega) with ⟨v, hv, rfl, w1, w2⟩ | ⟨-, w1, w2⟩
  · rw [w1, w2, Option.bind_some, Option.bind_some, i10, i10, ocountWith (base := 0) hn (by rw [ly_158 l]; exact V.1) (fun i hi => by rw [og_0 (by omega), Nat.zero_add]), Option.bind_some, itr_cnt (fun i => decide (cm 1 1 (0 + i) = nI v)) n (by omega) ?_ ?_, Option.bind_some]
    · exact ⟨_, rfl, rfl⟩
    · intro i c hi _
      dsimp only
      unfold f_X7_alike_B17
      rw [rd_157, V.1, Option.bind_some, ifle (by omega) (by omega), if_neg (by omega), mo_0 (by omega), Option.bind_some, nI_1, nI_1, Int32.add_zero, ← ly_0 l (by omega), Nat.zero_add]
      by_cases h : cm 1 1 i = nI v
      · rw [if_pos h, if_pos (decide_eq_true h)]
      · rw [if_neg h, if_neg (by rw [decide_eq_true_eq]; exact h)]; rfl
    · intro c
      dsimp only
      unfold f_X7_alike_B17
      rw [rd_157, V.1, Option.bind_some, ifle (by omega) (by omega), if_pos (by omega)]
  · rw [w1, w2, Option.bind_some, Option.bind_some, i00, i00]
    exact ⟨_, rfl, rfl⟩
theorem op_above {cm : CM} {mm : MM} (h : INV cm mm) (a1 : Int32) : EQ1 (f_X6_above cm a1) (f_X7_above mm a1) := by
  obtain ⟨n, l, V, R, -⟩ := h
  have hn := V.2.1
  have e158 : cm 1 1 158 = nI n := by rw [ly_158 l]; exact V.1
  unfold f_X6_above f_X7_above
  rcases wtn a1 99 (b := 99) rfl (by omega) with ⟨v, hv, rfl, w1, w2⟩ | ⟨-, w1, w2⟩
  · rw [w1, w2, Option.bind_some, Option.bind_some, i10, i10]
    have key := itr2_for (st1 := fun s : Int32 × Int32 => f_X6_above_B17 cm (nI v) s.1 s.2) (st2 := fun s : Int32 × Int32 => f_X7_above_B18 mm (nI v) s.1 s.2)
      (fun i s1 s2 => ∃ x, s1 = (x, nI i) ∧ s2 = (x, nI i)) n (-9, 0) (-9, 0) (by omega) ⟨_, rfl, rfl⟩ ?_ ?_
    · obtain ⟨s1, s2, i1, i2, x, rfl, rfl⟩ := key
      rw [i1, i2, Option.bind_some]
      exact ⟨_, rfl, rfl⟩
    · rintro i s1 s2 hi ⟨x, rfl, rfl⟩
      dsimp only
      refine ⟨if cm 1 1 i ≤ nI v then (x, nI (i + 1)) else if x = -9 then (cm 1 1 i, nI (i + 1)) else if x ≤ cm 1 1 i then (x, nI (i + 1)) else (cm 1 1 i, nI (i + 1)), if cm 1 1 i ≤ nI v then (x, nI (i + 1)) else if x = -9 then (cm 1 1 i, nI (i + 1)) else if x ≤ cm 1 1 i then (x, nI (i + 1)) else (cm 1 1 i, nI (i + 1)), ?_, ?_, ?_⟩
      · unfold f_X6_above_B17
        rw [opeople, e158, Option.bind_some, ifle (by omega) (by omega), if_neg (by omega), og_0 (by omega), Option.bind_some, nI_1]
        split <;> (try split) <;> (try split) <;> rfl
      · unfold f_X7_above_B18
        rw [rd_157, V.1, Option.bind_some, ifle (by omega) (by omega), if_neg (by omega), mo_0 (by omega), Option.bind_some, nI_1, ← ly_0 l (by omega)]
        split <;> (try split) <;> (try split) <;> rfl
      · split <;> (try split) <;> (try split) <;> exact ⟨_, rfl, rfl⟩
    · rintro s1 s2 ⟨x, rfl, rfl⟩
      dsimp only
      unfold f_X6_above_B17 f_X7_above_B18
      rw [opeople, e158, Option.bind_some, ifle (by omega) (by omega), if_pos (by omega), rd_157, V.1, Option.bind_some, ifle (by omega) (by omega), if_pos (by omega)]
      exact ⟨rfl, rfl⟩
  · rw [w1, w2, Option.bind_some, Option.bind_some, i00, i00]
    exact ⟨_, rfl, rfl⟩
