/-! PURE PART: the whole choice on both sides -/
/-- the order is one of the four kinds -/
def okOr (m : Nat → Int32) : Prop := (∀ i, i < 4 → ∃ k, k < 4 ∧ m (152 + i) = nI k) ∧ (∀ k, k < 4 → ∃ i, i < 4 ∧ m (152 + i) = nI k) ∧ ∀ i j, i < 4 → j < 4 → m (152 + i) = m (152 + j) → i = j
/-- two offices that give the same choice -/
def OF (c m : Nat → Int32) (n : Nat) : Prop :=
  c 158 = nI n ∧ GR c m n ∧ okMT c (fun p => c (16 + p)) n ∧ okMT (fun p => m (8 * p)) (fun p => m (8 * p + 1)) n ∧ srt (kyC c) n = srt (kyM m) n ∧ okS c n ∧ okSM m ∧ (∀ k, k < 4 → frC c n k = frM m n k) ∧ (∀ i, i < 16 → fgC c n i = fgM m n i) ∧ okK c n ∧ okV m n ∧ okH m ∧ okOr m
theorem frM_le {m : Nat → Int32} {n k : Nat} (h : okSM m) (hk : k < 4) : frM m n k ≤ 9 := by
  have := dN_bd (h.1 k hk) (by omega)
  unfold frM
  omega
theorem fgM_le {m : Nat → Int32} {n i : Nat} (h : okSM m) (hi : i < 16) : fgM m n i ≤ 5 := by
  have := dN_bd (h.2 i hi) (by omega)
  unfold fgM
  omega
theorem okR_srt (K : Nat → Nat) (n : Nat) : okR (srt K n) n := ⟨srt_len K n, srt_nodup, fun _ => srt_mem⟩
theorem make_0 {cm : CM} {C o n : Nat} {ch : MM} {m : Nat → Int32} (hoC : o ≠ C) (hO : OF (cm o 1) m n) :
    ∃ ch0, (f_X0_make (pC cm C ch) C o = (itr (fun s : Int32 × CM => f_X0_make_B56 C o s.1 s.2) 2000 (0, pC cm C ch0)).bind fun (s56_2, c56_) => (itr (fun s : Int32 × CM => f_X0_make_B82 C o s.1 s.2) 2000 (0, c56_)).bind fun (s82_2, c82_) => some c82_) ∧
    ch0 0 10 = nI n ∧ ch0 0 11 = 0 ∧ (∀ r p, (srt (kyM m) n)[r]? = some p → ch0 2 r &&& 15 = nI p) ∧ (∀ k, k < 4 → ch0 4 k = nI (frM m n k)) ∧ (∀ i, i < 16 → ch0 6 i = nI (fgM m n i)) ∧ (∀ k, k < 4 → ∀ i, i < 32 → (bt (ch0 8 k) i = true ↔ i < n ∧ cnC (cm o 1) k i)) ∧ ∀ p, p < 16 → ch0 10 p = -9 ∧ ch0 12 p = -9 ∧ ch0 14 p = 0 := by
  obtain ⟨o1, hG, o3, o4, o5, o6, o7, o8, o9, o10, o11, o12, o13⟩ := hO
  have hn := hG.2.1
  have hpo : pC cm C ch o = cm o := pC_n _ _ hoC
  have a1 := orankAll (cm := cm) (C := C) (o := o) (n := n) (ch := u2 ch 0 (upd (ch 0) 10 (nI n))) hoC o3 hn (by rw [u2_s, upd_s])
  obtain ⟨ch2, b1, b2, b3, b4⟩ := ofindFree (cm := cm) (C := C) (o := o) (n := n) (ch := u2 (u2 ch 0 (upd (ch 0) 10 (nI n))) 2 (arrR (kyC (cm o 1)) ((u2 ch 0 (upd (ch 0) 10 (nI n))) 2) n)) hoC hn (by rw [u2_n _ _ (by decide), u2_s, upd_s]) o6
  have b0 : ch2 0 10 = nI n := by rw [b2 0 (by decide), u2_n _ _ (by decide), u2_s, upd_s]
  obtain ⟨ch3, d1, d2, d3⟩ := ofindCand (cm := cm) (C := C) (o := o) (n := n) (ch := ch2) hoC hn b0 o10
  refine ⟨u2 (u2 (u2 (u2 ch3 0 (upd (ch3 0) 11 0)) 10 (mixf 16 (fun _ => -9) (ch3 10))) 12 (mixf 16 (fun _ => -9) (ch3 12))) 14 (mixf 16 (fun _ => 0) (ch3 14)), ?_, ?_, ?_, fun r p hr => ?_, fun k hk => ?_, fun i hi => ?_, fun k hk i hi => ?_, fun p hp => ⟨?_, ?_, ?_⟩⟩
  · unfold f_X0_make
    rw [opeople, hpo, o1, Option.bind_some, u3_pC', pC_s, a1, Option.bind_some, b1, Option.bind_some, d1, Option.bind_some, u3_pC', pC_s, rowfill (by omega), Option.bind_some, u3_pC', pC_s, rowfill (by omega), Option.bind_some, u3_pC', pC_s, rowfill (by omega), Option.bind_some, u3_pC', pC_s, u2_n (p := 0) (b := 10) _ _ (by decide), u2_n (p := 10) (b := 12) _ _ (by decide), u2_n (p := 0) (b := 12) _ _ (by decide), u2_n (p := 12) (b := 14) _ _ (by decide), u2_n (p := 10) (b := 14) _ _ (by decide), u2_n (p := 0) (b := 14) _ _ (by decide)]
  · rw [u2_n _ _ (by decide), u2_n _ _ (by decide), u2_n _ _ (by decide), u2_s, upd_n _ _ (by decide), d2 0 (by decide)]
    exact b0
  · rw [u2_n _ _ (by decide), u2_n _ _ (by decide), u2_n _ _ (by decide), u2_s, upd_s]
  · rw [u2_n _ _ (by decide), u2_n _ _ (by decide), u2_n _ _ (by decide), u2_n _ _ (by decide), d2 2 (by decide), b2 2 (by decide), u2_s]
    rw [← o5] at hr
    have hp : p < n := srt_mem.mp (List.mem_of_getElem? hr)
    have : kyC (cm o 1) p < 1600000 := kyN_lt o3 hp hn
    rw [arrR_KA _ _ _ r p hr, pk_andN (by omega) 4 (by decide), show 2 ^ 4 = 16 from rfl, kyN_mod (by omega)]
  · rw [u2_n _ _ (by decide), u2_n _ _ (by decide), u2_n _ _ (by decide), u2_n _ _ (by decide), d2 4 (by decide), b3 k hk, o8 k hk]
  · rw [u2_n _ _ (by decide), u2_n _ _ (by decide), u2_n _ _ (by decide), u2_n _ _ (by decide), d2 6 (by decide), b4 i hi, o9 i hi]
  · rw [u2_n _ _ (by decide), u2_n _ _ (by decide), u2_n _ _ (by decide), u2_n _ _ (by decide)]
    exact d3 k hk i hi
  · rw [u2_n _ _ (by decide), u2_n _ _ (by decide), u2_s, mix_lt _ _ hp]
  · rw [u2_n _ _ (by decide), u2_s, mix_lt _ _ hp]
  · rw [u2_s, mix_lt _ _ hp]
theorem CT.kp {n : Nat} {mm mm' : MM} (h : CT n mm) (e6 : mm' 6 = mm 6) (e8 : mm' 8 = mm 8) (e10 : mm' 10 = mm 10) : CT n mm' := by
  intro k hk
  have := h k hk
  unfold tkN at this ⊢
  rw [e6, e8, e10]
  exact this
theorem cntP_0 {P : Nat → Bool} : ∀ n, (∀ i, i < n → P i = false) → cntP P n = 0
  | 0, _ => rfl
  | n + 1, h => by
    rw [cntP_s, cntP_0 n (fun i hi => h i (by omega)), h n (by omega)]
    rfl
theorem make_2 {cm : CM} {C o n : Nat} {ch mm : MM} (hoC : o ≠ C) (hO : OF (cm o 1) (mm 1) n) :
    ∃ ch' mm', f_X0_make (pC cm C ch) C o = some (pC cm C ch') ∧ f_X7_choose mm = some mm' ∧ CH (cm o 1) (mm 1) n (srt (kyM (mm 1)) n) (frM (mm 1) n) (fgM (mm 1) n) ch' mm' ∧ EM n (frM (mm 1) n) mm' ∧ KM mm mm' := by
  obtain ⟨ch0, e0, e1, e2, e3, e4, e5, e6, e7⟩ := make_0 (cm := cm) (C := C) (ch := ch) hoC hO
  obtain ⟨o1, hG, o3, o4, o5, o6, o7, o8, o9, o10, hV, hH, hOr⟩ := hO
  have hn := hG.2.1
  obtain ⟨m1, a1, a2, a3, a4, a5⟩ := mfindFree (mm := mm) hG.1 hn o7
  have hm1 : m1 1 = mm 1 := a2 1 (by decide)
  obtain ⟨x, m2, b1, b2, b3, b4⟩ := mstart (mm := m1) (n := n) (by rw [hm1]; exact hG.1) hn (by rw [hm1]; exact o4)
  rw [hm1] at b3
  have hR := okR_srt (kyM (mm 1)) n
  have hS0 : SR (cm o 1) (mm 1) n (srt (kyM (mm 1)) n) (frM (mm 1) n) (fgM (mm 1) n) ch0 m2 := by
    refine ⟨e1, (b2 1 (by decide)).trans hm1, fun r p hr => ⟨e3 r p hr, b3 r p hr⟩, fun k hk => ⟨e4 k hk, ?_, frM_le o7 hk⟩, fun i hi => ⟨e5 i hi, ?_, fgM_le o7 hi⟩, e6⟩
    · rw [b2 4 (by decide)]; exact a3 k hk
    · rw [b2 5 (by decide)]; exact a5 i hi
  have hC0 : RC n ch0 m2 := by
    refine ⟨fun p hp => ?_, fun i _ hi => by rw [e2]; exact b_0 i⟩
    obtain ⟨q1, q2, q3⟩ := e7 p (by omega)
    obtain ⟨r1, r2, r3⟩ := b4 p hp
    rw [q1, q2, q3, r1, r2, r3, e2, b_0]
    exact ⟨rfl, rfl, rfl, Or.inl rfl, ⟨Or.inl rfl, Or.inl rfl⟩, by simp⟩
  have hN0 : GN n m2 := ⟨fun p hp _ => ⟨(b4 p hp).2.1, (b4 p hp).2.2⟩, fun p hp h => absurd (b4 p hp).1 h⟩
  have hT0 : CT n m2 := by
    intro k hk
    rw [b2 6 (by decide), a4 k hk]
    unfold tkN
    rw [cntP_0 n (fun i hi => by rw [(b4 i hi).1]; exact decide_eq_false (fun q => m9_ne' (n := k) (by omega) q.1))]
  have hK0 : KM mm m2 := ⟨(b2 1 (by decide)).trans hm1, (b2 2 (by decide)).trans (a2 2 (by decide)), (b2 18 (by decide)).trans (a2 18 (by decide)), by rw [b2 0 (by decide), a2 0 (by decide)], by rw [b2 0 (by decide), a2 0 (by decide)]⟩
  generalize hrk : srt (kyM (mm 1)) n = rk at *
  generalize hfr : frM (mm 1) n = fr at *
  generalize hfg : fgM (mm 1) n = fg at *
  -- those taken in
  have key := itr2_for (st1 := fun s : Int32 × CM => f_X0_make_B56 C o s.1 s.2) (st2 := fun s : Int32 × MM => f_X7_choose_B60 s.1 s.2)
    (fun i s1 s2 => s1.1 = nI i ∧ s2.1 = nI i ∧ ∃ ch', s1.2 = pC cm C ch' ∧ CH (cm o 1) (mm 1) n rk fr fg ch' s2.2 ∧ KM mm s2.2 ∧ (∀ p, p < n → s2.2 10 p = 0) ∧ ∀ j k, j < i → k < 4 → mm 1 (152 + j) = nI k → s2.2 7 k = nI (fr k) - s2.2 6 k) 4 (0, pC cm C ch0) (0, m2) (by omega) ⟨rfl, rfl, ch0, rfl, ⟨hS0, hC0, hN0, hT0⟩, hK0, fun p hp => (b4 p hp).2.2, fun j k hj => by omega⟩ ?_ ?_
  · obtain ⟨⟨x1, y1⟩, ⟨x2, y2⟩, i1, i2, -, -, ch1, z1, z2, z3, z4, z5⟩ := key
    dsimp only at z1 z2 z3 z4 z5
    subst z1
    have hE : EM n fr y2 := by
      intro k hk
      obtain ⟨j, hj, e⟩ := hOr.2.1 k hk
      rw [z5 j k hj hk e, z2.2.2.2 k hk]
      congr 2
      unfold tkN stN
      exact cntP_congr n (fun i hi => by rw [z4 i hi]; simp)
    have key2 := itr2_for (st1 := fun s : Int32 × CM => f_X0_make_B82 C o s.1 s.2) (st2 := fun s : Int32 × MM => f_X7_choose_B108 s.1 s.2)
      (fun i s1 s2 => s1.1 = nI i ∧ s2.1 = nI i ∧ ∃ ch', s1.2 = pC cm C ch' ∧ CH (cm o 1) (mm 1) n rk fr fg ch' s2.2 ∧ EM n fr s2.2 ∧ KM mm s2.2) 4 (0, pC cm C ch1) (0, y2) (by omega) ⟨rfl, rfl, ch1, rfl, z2, hE, z3⟩ ?_ ?_
    · obtain ⟨⟨x3, y3⟩, ⟨x4, y4⟩, i3, i4, -, -, ch2, w1, w2, w3, w4⟩ := key2
      dsimp only at w1 w2 w3 w4
      subst w1
      refine ⟨ch2, y4, ?_, ?_, w2, w3, w4⟩
      · rw [e0, i1, Option.bind_some]
        dsimp only
        rw [i3, Option.bind_some]
      · unfold f_X7_choose
        rw [a1, Option.bind_some, b1, Option.bind_some]
        dsimp only
        rw [i2, Option.bind_some]
        dsimp only
        rw [i4, Option.bind_some]
    · rintro i ⟨x3, y3⟩ ⟨x4, y4⟩ hi ⟨v1, v2, ch2, w1, w2, w3, w4⟩
      dsimp only at v1 v2 w1 w2 w3 w4
      subst v1; subst v2; subst w1
      dsimp only
      obtain ⟨k, hk, ek⟩ := hOr.1 i hi
      obtain ⟨ch3, m3, p1, p2, p3, p4, p5⟩ := pass_on (cm := cm) (C := C) hoC hG hH hR hk w2 w3
      refine ⟨(nI (i + 1), pC cm C ch3), (nI (i + 1), m3), ?_, ?_, rfl, rfl, ch3, rfl, p3, p4, w4.tr p5⟩
      · unfold f_X0_make_B82
        rw [show (4 : Int32) = nI 4 from rfl, ifle (by omega) (by omega), if_neg (by omega), og_152 hi, pC_n _ _ hoC, (hG.2.2.2.1 i hi).2, ek, Option.bind_some, p1, Option.bind_some, nI_1]
      · unfold f_X7_choose_B108
        rw [show (4 : Int32) = nI 4 from rfl, ifle (by omega) (by omega), if_neg (by omega), w2.1.2.1, rdo_152 _ hi, ek, Option.bind_some, p2, Option.bind_some, nI_1]
    · rintro ⟨x3, y3⟩ ⟨x4, y4⟩ ⟨v1, v2, -⟩
      dsimp only at v1 v2
      subst v1; subst v2
      dsimp only
      unfold f_X0_make_B82 f_X7_choose_B108
      rw [if_pos (by decide), if_pos (by decide)]
      exact ⟨rfl, rfl⟩
  · rintro i ⟨x1, y1⟩ ⟨x2, y2⟩ hi ⟨v1, v2, ch1, z1, z2, z3, z4, z5⟩
    dsimp only at v1 v2 z1 z2 z3 z4 z5
    subst v1; subst v2; subst z1
    dsimp only
    obtain ⟨k, hk, ek⟩ := hOr.1 i hi
    obtain ⟨ch2, m3, p1, p2, p3, p4, p5, p6, p7, p8, p9, p10, p11⟩ := take_in (cm := cm) (C := C) hoC hG hV hR z2.1 z2.2.1 z2.2.2.1 z2.2.2.2 hk
    have hS2 : SR (cm o 1) (mm 1) n rk fr fg ch2 m3 := z2.1.kp p4 (fun q hq => p3 q (by simp at hq ⊢; omega)) (fun q hq => p5 q (by simp at hq ⊢; omega))
    refine ⟨(nI (i + 1), pC cm C ch2), (nI (i + 1), u2 m3 7 (upd (m3 7) k (nI (fr k) - m3 6 k))), ?_, ?_, rfl, rfl, ch2, rfl, ⟨?_, ?_, ?_, ?_⟩, z3.tr ?_, fun p hp => ?_, fun j k' hj hk' ej => ?_⟩
    · unfold f_X0_make_B56
      rw [show (4 : Int32) = nI 4 from rfl, ifle (by omega) (by omega), if_neg (by omega), og_152 hi, pC_n _ _ hoC, (hG.2.2.2.1 i hi).2, ek, Option.bind_some, p1, Option.bind_some, nI_1]
    · unfold f_X7_choose_B60
      rw [show (4 : Int32) = nI 4 from rfl, ifle (by omega) (by omega), if_neg (by omega), z2.1.2.1, rdo_152 _ hi, ek, Option.bind_some, p2, Option.bind_some, rd_nI _ hk (by omega), (hS2.2.2.2.1 k hk).2.1, Option.bind_some, rd_nI _ hk (by omega), Option.bind_some, wr_nI _ _ hk (by omega), Option.bind_some, nI_1]
    · exact hS2.kp rfl (fun _ _ => rfl) (fun q hq => by dsimp only; rw [u2_n _ _ (by intro e; subst e; simp at hq)])
    · exact p8.kp rfl (fun _ _ => rfl) (fun q hq => by dsimp only; rw [u2_n _ _ (by intro e; subst e; simp at hq)])
    · refine ⟨fun p hp h => ?_, fun p hp h => ?_⟩
      · dsimp only at h ⊢
        rw [u2_n _ _ (by decide)] at h
        rw [u2_n _ _ (by decide), u2_n _ _ (by decide)]
        exact p9.1 p hp h
      · dsimp only at h ⊢
        rw [u2_n _ _ (by decide)] at h
        rw [u2_n _ _ (by decide)]
        exact p9.2 p hp h
    · dsimp only
      refine CT.kp p10 ?_ ?_ ?_ <;> rw [u2_n _ _ (by decide)]
    · refine ⟨?_, ?_, ?_, ?_, ?_⟩ <;> dsimp only <;> rw [u2_n _ _ (by decide)]
      · exact p5 1 (by decide)
      · exact p5 2 (by decide)
      · exact p5 18 (by decide)
      · exact p6
      · exact p7
    · dsimp only
      rw [u2_n _ _ (by decide), p5 10 (by decide)]
      exact z4 p hp
    · dsimp only
      rw [u2_s, u2_n _ _ (by decide)]
      by_cases e : k' = k
      · subst e
        rw [upd_s]
      · have hji : j ≠ i := fun q => e ((nI_eq (by omega) (by omega)).mp (ej.symm.trans (by rw [q]; exact ek)))
        rw [upd_n _ _ e, p5 7 (by decide), z5 j k' (by omega) hk' ej, p11 k' e]
  · rintro ⟨x1, y1⟩ ⟨x2, y2⟩ ⟨v1, v2, -⟩
    dsimp only at v1 v2
    subst v1; subst v2
    dsimp only
    unfold f_X0_make_B56 f_X7_choose_B60
    rw [if_pos (by decide), if_pos (by decide)]
    exact ⟨rfl, rfl⟩
