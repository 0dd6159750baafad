/-! PURE PART: by -/
theorem marks_2 {cm : CM} {mm : MM} {n : Nat} (x : Int32) (l : lay (cm 1 1) (mm 1)) (V : VM (mm 1) n) : ∃ r, f_X6_sumOfMarks cm x = some r ∧ f_X7_marksOf mm x = some r := by
  have hn := V.2.1
  have key := itr2_for (st1 := fun s : Int32 × Int32 => f_X6_sumOfMarks_B4 cm x s.1 s.2) (st2 := fun s : Int32 × Int32 => f_X7_marksOf_B4 mm x s.1 s.2) (fun k t1 t2 => ∃ y, t1 = (y, nI k) ∧ t2 = (y, nI k)) n (0, 0) (0, 0) (by omega) ⟨_, rfl, rfl⟩ ?_ ?_
  · obtain ⟨t1, t2, i1, i2, y, rfl, rfl⟩ := key
    refine ⟨y, ?_, ?_⟩
    · unfold f_X6_sumOfMarks
      rw [i1, Option.bind_some]
    · unfold f_X7_marksOf
      rw [i2, Option.bind_some]
  · rintro k t1 t2 hk ⟨y, rfl, rfl⟩
    dsimp only
    unfold f_X6_sumOfMarks_B4 f_X7_marksOf_B4
    rw [opeople, ly_158 l, V.1, Option.bind_some, ifle (by omega) (by omega), if_neg (by omega), rd_157, V.1, Option.bind_some, ifle (by omega) (by omega), if_neg (show ¬ n ≤ k by omega), isin, Option.bind_some, mo_0 (by omega), Option.bind_some, og_0 (by omega), Option.bind_some, ly_0 l (by omega), nI_1, bit1 (by omega), if11]
    by_cases b : bt x k = true
    · rw [if_pos b, if_pos b, Int32.one_mul]
      exact ⟨_, _, rfl, rfl, _, rfl, rfl⟩
    · rw [if_neg b, if_neg b, Int32.zero_mul, Int32.add_zero]
      exact ⟨_, _, rfl, rfl, _, rfl, rfl⟩
  · rintro t1 t2 ⟨y, rfl, rfl⟩
    dsimp only
    unfold f_X6_sumOfMarks_B4 f_X7_marksOf_B4
    rw [opeople, ly_158 l, V.1, Option.bind_some, ifle (by omega) (by omega), if_pos (by omega), rd_157, V.1, Option.bind_some, ifle (by omega) (by omega), if_pos (by omega)]
    exact ⟨rfl, rfl⟩
theorem op_by {cm : CM} {mm : MM} (h : INV cm mm) (a1 a2 : Int32) : EQ2 (f_X6_by cm a1 a2) (f_X7_by mm a1 a2) := by
  have h' := h
  obtain ⟨n, l, V, R, -⟩ := h
  have hn := V.2.1
  unfold f_X6_by f_X7_by
  rcases wtn a1 2 (b := 2) rfl (by omega) with ⟨v, hv, rfl, q1, q2⟩ | ⟨-, q1, q2⟩
  rotate_left
  · rw [q1, q2, Option.bind_some, Option.bind_some, i00, i00]
    exact EQ2.k h' _
  rw [q1, q2, Option.bind_some, Option.bind_some, i10, i10]
  rcases wtn a2 3 (b := 3) rfl (by omega) with ⟨w, hw, rfl, q1, q2⟩ | ⟨-, q1, q2⟩
  rotate_left
  · rw [q1, q2, Option.bind_some, Option.bind_some, i00, i00]
    exact EQ2.k h' _
  rw [q1, q2, Option.bind_some, Option.bind_some, i10, i10]
  have hl' : lay (upd (va_cpy (cm 1 1) (cm 28 1) 0 0 159) 156 (nI v)) (upd (mm 1) 156 (nI v)) := by
    have := lay_upd (j := 156) (lay_cpy (cm 28 1) l) (by omega) (nI v)
    rwa [mi_hi (by omega) (by omega)] at this
  have hV' : VM (upd (mm 1) 156 (nI v)) n := V.hi (fun i hi => upd_n _ _ (by omega)) (okSM_cg V.2.2.2.1 (fun i _ _ => upd_n _ _ (by omega))) (okH_cg V.2.2.2.2.1 (fun i _ _ => upd_n _ _ (by omega))) (okOr_cg V.2.2.2.2.2 (fun i _ _ => upd_n _ _ (by omega)))
  obtain ⟨ch1, ch2, a1, a2, a3, a4⟩ := made (cm := u3 (u3 cm 28 1 (va_cpy (cm 1 1) (cm 28 1) 0 0 159)) 28 1 (upd (va_cpy (cm 1 1) (cm 28 1) 0 0 159) 156 (nI v))) (C := 29) (o := 28) (n := n) (mm := mk1 (upd (mm 1) 156 (nI v))) (by decide) (by rw [u3_s]; exact OF_of hl' hV') rfl
  obtain ⟨mm1, mm2, b1, b2, b3, b4, b5, b6⟩ := a4 (u2 mm 1 (upd (mm 1) 156 (nI v))) (u2_s _ _ _)
  have e2 : mm2 1 = upd (mm 1) 156 (nI v) := b6.1.trans (u2_s _ _ _)
  unfold f_X3_copyFrom
  rw [Option.bind_some, os_156, u3_s, Option.bind_some, a1, Option.bind_some, rd_156, Option.bind_some, show (156 : Int32) = nI 156 from rfl, wr_nI _ _ (by omega) (by omega), Option.bind_some, b4, Option.bind_some, wr_nI _ _ (by omega) (by omega), Option.bind_some, e2, upd_upd, upd_self]
  have hRC : RC n ch2 (u2 mm2 1 (mm 1)) := b5.1.2.1.kp rfl (fun _ _ => rfl) (fun q hq => u2_n _ _ (by simp at hq; omega))
  have hRW : RW n ch1 (u2 mm2 1 (mm 1)) := by
    have := hRC.w
    unfold RW at this ⊢
    rw [a3 0 (by decide), a3 10 (by decide), a3 14 (by decide)] at this
    exact this
  have e157 : (u2 mm2 1 (mm 1)) 1 157 = nI n := by rw [u2_s]; exact V.1
  have hfin : ∀ ch, INV (pC (u3 (u3 cm 28 1 (va_cpy (cm 1 1) (cm 28 1) 0 0 159)) 28 1 (upd (va_cpy (cm 1 1) (cm 28 1) 0 0 159) 156 (nI v))) 29 ch) (u2 mm2 1 (mm 1)) := by
    intro ch
    refine h'.kp (fun o ho => by rw [pC_n _ _ (by omega), u3_o (by omega), u3_o (by omega)]) (u2_s _ _ _) ?_ ?_ ?_
    · rw [u2_n _ _ (by decide), b6.2.1, u2_n _ _ (by decide)]
    · rw [u2_n _ _ (by decide), b6.2.2.2.1, u2_n _ _ (by decide)]
    · rw [u2_n _ _ (by decide), b6.2.2.2.2, u2_n _ _ (by decide)]
  have hch := mchosen hn e157 hRW
  have hbits : ∀ i, 16 ≤ i → i < 32 → bt (ch1 0 11) i = false := fun i q1 q2 => hRW.2 i (by omega) q2
  unfold f_X0_members
  rcases w with _ | _ | _ | _ | w
  · rw [if_pos (by decide), if_pos (by decide), Option.bind_some, pC_s, hch, Option.bind_some]
    exact ⟨_, _, _, rfl, rfl, hfin _⟩
  · rw [if_neg (by decide), if_pos (by decide), if_neg (by decide), if_pos (by decide), Option.bind_some, pC_s, bitc hbits, Option.bind_some, hch, Option.bind_some, msize, Option.bind_some]
    exact ⟨_, _, _, rfl, rfl, hfin _⟩
  · have hl2 : lay ((pC (u3 (u3 cm 28 1 (va_cpy (cm 1 1) (cm 28 1) 0 0 159)) 28 1 (upd (va_cpy (cm 1 1) (cm 28 1) 0 0 159) 156 (nI v))) 29 ch1) 1 1) ((u2 mm2 1 (mm 1)) 1) := by
      rw [pC_n _ _ (by decide), u3_o (by decide), u3_o (by decide), u2_s]; exact l
    obtain ⟨r, r1, r2⟩ := marks_2 (n := n) (ch1 0 11) hl2 (by rw [u2_s]; exact V)
    rw [if_neg (by decide), if_neg (by decide), if_pos (by decide), if_neg (by decide), if_neg (by decide), if_pos (by decide), Option.bind_some, pC_s, r1, Option.bind_some, hch, Option.bind_some, r2, Option.bind_some]
    exact ⟨_, _, _, rfl, rfl, hfin _⟩
  · obtain ⟨r, r1, r2⟩ := counted_2 (cm := pC (u3 (u3 cm 28 1 (va_cpy (cm 1 1) (cm 28 1) 0 0 159)) 28 1 (upd (va_cpy (cm 1 1) (cm 28 1) 0 0 159) 156 (nI v))) 29 ch2) (C := 29) (mm := u2 mm2 1 (mm 1)) hn (by rw [pC_s]; exact b5.1.1.1) e157 (by rw [pC_s]; exact hRC)
    rw [if_neg (by decide), if_neg (by decide), if_neg (by decide), if_neg (by decide), if_neg (by decide), if_neg (by decide), a2, Option.bind_some, r1, Option.bind_some, r2, Option.bind_some]
    exact ⟨_, _, _, rfl, rfl, hfin _⟩
  · omega
