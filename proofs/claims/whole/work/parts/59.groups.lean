/-! PURE PART: taking by groups, on both sides -/
theorem ofreeRes {cm : CM} {C k g : Nat} {ch : MM} (hk : k < 4) (hg : g < 4) : f_X0_freeReserved (pC cm C ch) C (nI k) (nI g) = some (ch 6 (4 * k + g)) := by
  unfold f_X0_freeReserved
  rw [show nI k * 4 + nI g = nI (4 * k + g) by rw [show (4 : Int32) = nI 4 from rfl, pk_mul, nI_add, Nat.mul_comm], rowget (by omega) (by omega), pC_s, Option.bind_some]
theorem isin (x : Int32) (g : Nat) : f_X7_isIn x (nI g) = some ((x >>> (nI g &&& 31)) &&& 1) := rfl
theorem take_group {cm : CM} {C o k n g : Nat} {ln : List Nat} {ch0 mm0 ch mm : MM} {lf v : Nat} (hg4 : g < 4) (hoC : o ≠ C) (hG : GR (cm o 1) (mm0 1) n) (hL : okL ln n) (hf : lf ≤ 16) (hv : v ≤ 5) (l1 : LR ln ch0 mm0) (h : TT k n ln ch0 mm0 ch mm) :
    ∃ fd ch' mm' a b, fd ≤ lf ∧ f_X0_takeForGroup (pC cm C ch) C o (nI k) (nI g) (if nI v < nI lf then nI v else nI lf) = some (nI fd, pC cm C ch') ∧ itr (fun s : Int32 × Int32 × Int32 × MM => f_X7_takeByGroups_B27 (nI g) s.1 s.2.1 s.2.2.1 s.2.2.2) 2000 (nI lf, nI v, 0, mm) = some (nI (lf - fd), a, b, mm') ∧ TT k n ln ch0 mm0 ch' mm' := by
  obtain ⟨l1, l2, l3⟩ := l1
  have hn := hL.1
  have hl := hL.2.1
  obtain ⟨qt, hq1, hq2, hq3⟩ : ∃ qt, (if nI v < nI lf then nI v else nI lf) = nI qt ∧ qt ≤ 16 ∧ (qt = v ∧ v < lf ∨ qt = lf ∧ lf ≤ v) := by
    by_cases e : v < lf
    · exact ⟨v, by rw [iflt (by omega) (by omega), if_pos e], by omega, Or.inl ⟨rfl, e⟩⟩
    · exact ⟨lf, by rw [iflt (by omega) (by omega), if_neg e], hf, Or.inr ⟨rfl, by omega⟩⟩
  rw [hq1]
  unfold f_X0_takeForGroup
  have key := itr2 (st1 := fun s : Int32 × Int32 × CM => f_X0_takeForGroup_B6 C o (nI k) (nI g) (nI qt) s.1 s.2.1 s.2.2) (st2 := fun s : Int32 × Int32 × Int32 × MM => f_X7_takeByGroups_B27 (nI g) s.1 s.2.1 s.2.2.1 s.2.2.2)
    (fun i s1 s2 => ∃ fd ch', fd ≤ qt ∧ s1 = (nI fd, nI i, pC cm C ch') ∧ s2.1 = nI (lf - fd) ∧ s2.2.1 = nI (v - fd) ∧ s2.2.2.1 = nI i ∧ TT k n ln ch0 mm0 ch' s2.2.2.2)
    (fun o1 o2 => ∃ fd ch', fd ≤ lf ∧ o1.1 = nI fd ∧ o1.2.2 = pC cm C ch' ∧ o2.1 = nI (lf - fd) ∧ TT k n ln ch0 mm0 ch' o2.2.2.2) ln.length ?_ ?_ 2000 0 (0, 0, pC cm C ch) (nI lf, nI v, 0, mm) (Nat.zero_le _) (by omega) ⟨0, ch, Nat.zero_le _, rfl, rfl, rfl, rfl, h⟩
  · obtain ⟨⟨a1, b1, m1⟩, ⟨a2, b2, d2, m2⟩, i1, i2, fd, ch', e1, e2, e3, e4, e5⟩ := key
    dsimp only at e2 e3 e4 e5
    subst e2; subst e3; subst e4
    rw [i1, Option.bind_some]
    exact ⟨fd, ch', m2, b2, d2, e1, rfl, i2, e5⟩
  · rintro i s1 ⟨a2, b2, d2, m2⟩ hi ⟨fd, ch', hfd, rfl, e1, e2, e3, hT⟩
    dsimp only at e1 e2 e3 hT
    subst e1; subst e2; subst e3
    dsimp only
    have hT' := hT
    obtain ⟨t1, t2, t3, t4, t5, t6, t7⟩ := hT
    have hp := List.getElem?_eq_getElem hi
    generalize ln[i] = p at hp
    have hpn : p < n := hL.2.2.2 p (List.mem_of_getElem? hp)
    have hm1 : m2 1 = mm0 1 := t4 1 (by decide)
    have hgp := (hG.2.2.1 p hpn).2.1
    unfold f_X0_takeForGroup_B6 f_X7_takeByGroups_B27
    by_cases hz : qt ≤ fd
    · refine Or.inr ⟨(nI fd, nI i, pC cm C ch'), (nI (lf - fd), nI (v - fd), nI i, m2), ?_, ?_, fd, ch', by omega, rfl, rfl, rfl, hT'⟩
      · rw [pC_s, t2, l1, ifle (by omega) (by omega), if_neg (by omega), ifle (by omega) (by omega), if_pos hz]
      · rw [t4 0 (by decide), l2, ifle (by omega) (by omega), if_neg (by omega), show (0 : Int32) = nI 0 from rfl, ifle (by omega) (by omega), ifle (by omega) (by omega)]
        by_cases e : lf - fd ≤ 0
        · rw [if_pos e]
        · rw [if_neg e, if_pos (by omega)]
    · refine Or.inl ?_
      obtain ⟨q1, q2⟩ := t5 i p hp
      have eC : f_X4_get (pC cm C ch') C 15 16 (nI i) = some (nI p) := by
        rw [rowget (by omega) (by omega), pC_s, t1 16 (by decide), (l3 i p hp).1]
      have eM : rd 16 (m2 11) (nI i) = some (nI p) := by
        rw [rd_nI _ (by omega) (by omega), t4 11 (by decide), (l3 i p hp).2]
      have c0 : ¬ nI (lf - fd) ≤ 0 := nI_nle (by omega) (by omega)
      have c1 : ¬ nI (v - fd) ≤ 0 := nI_nle (by omega) (by omega)
      rcases q2 with ⟨f1, f2, f3⟩ | ⟨f1, f2, f3, f4⟩
      · refine ⟨(nI fd, nI (i + 1), pC cm C ch'), (nI (lf - fd), nI (v - fd), nI (i + 1), m2), ?_, ?_, fd, ch', hfd, rfl, rfl, rfl, rfl, hT'⟩
        · rw [pC_s, t2, l1, ifle (by omega) (by omega), if_neg (by omega), ifle (by omega) (by omega), if_neg hz, eC, Option.bind_some, ohas (by omega), f3, Option.bind_some, if_pos rfl, if_neg (by decide), nI_1]
        · rw [t4 0 (by decide), l2, ifle (by omega) (by omega), if_neg (by omega), if_neg c0, if_neg c1, rd_nI _ (by omega) (by omega), Option.bind_some, f1, if_neg (by decide), nI_1]
      · by_cases hb : ((cm o 1 (48 + p) >>> (nI g &&& 31)) &&& 1) = 1
        · refine ⟨(nI (fd + 1), nI (i + 1), pC cm C (tkC ch' p k (nI g))), (nI (lf - (fd + 1)), nI (v - (fd + 1)), nI (i + 1), u2 (u2 m2 12 (upd (m2 12) i 1)) 9 (upd (m2 9) p (nI g))), ?_, ?_, fd + 1, tkC ch' p k (nI g), by omega, rfl, rfl, rfl, rfl, TT_take (g := nI g) (mm' := u2 (u2 m2 12 (upd (m2 12) i 1)) 9 (upd (m2 9) p (nI g))) hL hT' hp f1 (by rw [u2_n _ _ (by decide), u2_s]) (by rw [u2_s]) (((keeps.rf _ _).up (by decide)).up (by decide)) (Or.inr ⟨g, hg4, rfl⟩)⟩
          · rw [pC_s, t2, l1, ifle (by omega) (by omega), if_neg (by omega), ifle (by omega) (by omega), if_neg hz, eC, Option.bind_some, ohas (by omega), f3, Option.bind_some, if_pos (by decide), og_48 (by omega), pC_n _ _ hoC, Option.bind_some, if_pos hb, otake (by omega), Option.bind_some, nI_1, nI_1]
          · rw [t4 0 (by decide), l2, ifle (by omega) (by omega), if_neg (by omega), if_neg c0, if_neg c1, rd_nI _ (by omega) (by omega), Option.bind_some, f1, if_pos rfl, eM, Option.bind_some, mo_3 (by omega), Option.bind_some, hm1, ← hgp, isin, Option.bind_some, if_pos hb, wr_nI _ _ (by omega) (by omega), Option.bind_some, u2_n (p := 12) (b := 11) _ _ (by decide), eM, Option.bind_some, u2_n (p := 12) (b := 9) _ _ (by decide), wr_nI _ _ (by omega) (by omega), Option.bind_some, nI_1, show lf - fd = lf - (fd + 1) + 1 by omega, pk_m1, show v - fd = v - (fd + 1) + 1 by omega, pk_m1]
        · refine ⟨(nI fd, nI (i + 1), pC cm C ch'), (nI (lf - fd), nI (v - fd), nI (i + 1), m2), ?_, ?_, fd, ch', hfd, rfl, rfl, rfl, rfl, hT'⟩
          · rw [pC_s, t2, l1, ifle (by omega) (by omega), if_neg (by omega), ifle (by omega) (by omega), if_neg hz, eC, Option.bind_some, ohas (by omega), f3, Option.bind_some, if_pos (by decide), og_48 (by omega), pC_n _ _ hoC, Option.bind_some, if_neg hb, nI_1]
          · rw [t4 0 (by decide), l2, ifle (by omega) (by omega), if_neg (by omega), if_neg c0, if_neg c1, rd_nI _ (by omega) (by omega), Option.bind_some, f1, if_pos rfl, eM, Option.bind_some, mo_3 (by omega), Option.bind_some, hm1, ← hgp, isin, Option.bind_some, if_neg hb, nI_1]
  · rintro s1 ⟨a2, b2, d2, m2⟩ ⟨fd, ch', hfd, rfl, e1, e2, e3, hT⟩
    dsimp only at e1 e2 e3 hT
    subst e1; subst e2; subst e3
    dsimp only
    unfold f_X0_takeForGroup_B6 f_X7_takeByGroups_B27
    refine ⟨(nI fd, nI ln.length, pC cm C ch'), (nI (lf - fd), nI (v - fd), nI ln.length, m2), ?_, ?_, fd, ch', by omega, rfl, rfl, rfl, hT⟩
    · rw [pC_s, hT.2.1, l1, ifle (by omega) (by omega), if_pos (by omega)]
    · rw [hT.2.2.2.1 0 (by decide), l2, ifle (by omega) (by omega), if_pos (by omega)]
theorem take_groups {cm : CM} {C o k n : Nat} {ln : List Nat} {ch0 mm0 ch mm : MM} {fg : Nat → Nat} {lf : Nat} (hk : k < 4) (hoC : o ≠ C) (hG : GR (cm o 1) (mm0 1) n) (hL : okL ln n) (hf : lf ≤ 16) (hv : ∀ i, i < 16 → ch0 6 i = nI (fg i) ∧ mm0 5 i = nI (fg i) ∧ fg i ≤ 5) (l1 : LR ln ch0 mm0) (h : TT k n ln ch0 mm0 ch mm) :
    ∃ ch' mm', f_X0_takeByGroups (pC cm C ch) C o (nI k) (nI lf) = some (pC cm C ch') ∧ f_X7_takeByGroups mm (nI k) (nI lf) = some mm' ∧ TT k n ln ch0 mm0 ch' mm' := by
  unfold f_X0_takeByGroups f_X7_takeByGroups
  have key := itr2_for (st1 := fun s : Int32 × Int32 × CM => f_X0_takeByGroups_B6 C o (nI k) s.1 s.2.1 s.2.2) (st2 := fun s : Int32 × Int32 × MM => f_X7_takeByGroups_B5 (nI k) s.1 s.2.1 s.2.2)
    (fun g s1 s2 => ∃ L ch', L ≤ 16 ∧ s1 = (nI L, nI g, pC cm C ch') ∧ s2.1 = nI L ∧ s2.2.1 = nI g ∧ TT k n ln ch0 mm0 ch' s2.2.2) 4 (nI lf, 0, pC cm C ch) (nI lf, 0, mm) (by omega) ⟨lf, ch, hf, rfl, rfl, rfl, h⟩ ?_ ?_
  · obtain ⟨s1, ⟨a2, b2, m2⟩, i1, i2, L, ch', e1, e2, e3, e4, e5⟩ := key
    dsimp only at e3 e4 e5
    subst e2; subst e3
    rw [i1, i2, Option.bind_some, Option.bind_some]
    obtain ⟨ch2, mm2, j1, j2, j3⟩ := take_best (cm := cm) (C := C) hL e1 l1 e5
    refine ⟨ch2, mm2, ?_, ?_, j3⟩
    · dsimp only
      rw [j1, Option.bind_some]
    · dsimp only
      rw [j2, Option.bind_some]
  · rintro g s1 ⟨a2, b2, m2⟩ hg ⟨L, ch', hL16, rfl, e1, e2, hT⟩
    dsimp only at e1 e2 hT
    subst e1; subst e2
    dsimp only
    obtain ⟨v1, v2, v3⟩ := hv (4 * k + g) (by omega)
    obtain ⟨fd, ch2, mm2, a, b, j1, j2, j3, j4⟩ := take_group (g := g) (o := o) (cm := cm) (C := C) hg hoC hG hL hL16 v3 l1 hT
    refine ⟨(nI (L - fd), nI (g + 1), pC cm C ch2), (nI (L - fd), nI (g + 1), mm2), ?_, ?_, L - fd, ch2, by omega, rfl, rfl, rfl, j4⟩
    · unfold f_X0_takeByGroups_B6
      rw [show (4 : Int32) = nI 4 from rfl, ifle (by omega) (by omega), if_neg (by omega), ofreeRes hk hg, hT.1 6 (by decide), v1, Option.bind_some, j2, Option.bind_some, pk_sub j1, nI_1]
    · unfold f_X7_takeByGroups_B5
      rw [show (4 : Int32) = nI 4 from rfl, ifle (by omega) (by omega), if_neg (by omega), pk_mul, nI_add, rd_nI _ (by omega) (by omega), hT.2.2.2.1 5 (by decide), v2, Option.bind_some, j3, Option.bind_some, nI_1]
  · rintro s1 ⟨a2, b2, m2⟩ ⟨L, ch', hL16, rfl, e1, e2, hT⟩
    dsimp only at e1 e2 hT
    subst e1; subst e2
    dsimp only
    unfold f_X0_takeByGroups_B6 f_X7_takeByGroups_B5
    rw [if_pos (by decide), if_pos (by decide)]
    exact ⟨rfl, rfl⟩
