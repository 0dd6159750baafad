/-! PURE PART: taking with the greatest fill, on both sides -/
theorem TR.kp {k n : Nat} {ln : List Nat} {ch mm ch' mm' : MM} (h : TR k n ln ch mm) (h1 : ∀ p ∈ [0, 10, 12, 14], ch' p = ch p) (h2 : ∀ p ∈ [8, 9, 10, 12], mm' p = mm p) : TR k n ln ch' mm' := by
  unfold TR at h ⊢
  rw [h1 0 (by decide), h1 10 (by decide), h1 12 (by decide), h1 14 (by decide), h2 8 (by decide), h2 9 (by decide), h2 10 (by decide), h2 12 (by decide)]
  exact h
theorem nm {ps : List Nat} {p : Nat} (h : ps.contains p = false) : p ∉ ps := by
  intro hp
  rw [List.contains_iff_mem.mpr hp] at h
  cases h
theorem TT.kp {k n : Nat} {ln : List Nat} {ch0 mm0 ch mm ch' mm' : MM} (h : TT k n ln ch0 mm0 ch mm) (h1 : keeps [18, 20] ch ch') (h2 : keeps [13, 14, 15, 16] mm mm') : TT k n ln ch0 mm0 ch' mm' := by
  obtain ⟨a1, a2, a3, a4, b⟩ := h
  refine ⟨a1.tr h1 (by decide), by rw [h1 0 (by decide)]; exact a2, by rw [h1 0 (by decide)]; exact a3, a4.tr h2 (by decide), b.kp (fun p hp => h1 p ?_) (fun p hp => h2 p ?_)⟩
  · intro q
    simp at hp q
    omega
  · intro q
    simp at hp q
    omega
theorem addif1 (a : Nat) (b : Bool) : nI a + (if b = true then (1 : Int32) else 0) = nI (a + if b = true then 1 else 0) := by
  cases b
  · rw [if_neg (by decide), if_neg (by decide), Int32.add_zero]; rfl
  · rw [if_pos rfl, if_pos rfl, nI_1]
theorem addifm (a : Nat) (b : Bool) : nI (a + if b = true then 1 else 0) + (if b = true then (-1 : Int32) else 0) = nI a := by
  cases b
  · rw [if_neg (by decide), if_neg (by decide), Int32.add_zero]; rfl
  · rw [if_pos rfl, if_pos rfl, pk_m1]
theorem rsS_le' {f : Nat → Nat} {s b : Nat} : ∀ g, (∀ i, i < g → f i ≤ b) → rsS f s g ≤ b * g
  | 0, _ => Nat.le_refl _
  | g + 1, hf => by
    have := rsS_le' (s := s) g (fun i hi => hf i (by omega))
    have := hf g (by omega)
    rw [rsS_s, Nat.mul_succ]
    split <;> omega
/-- the whole line into the tally -/
theorem oline {cm : CM} {C o n : Nat} {ln : List Nat} {ch : MM} {gs : Nat → Int32} (hoC : o ≠ C) (hL : okL ln n) (hg : ∀ p, p < n → cm o 1 (48 + p) = gs p) (l1 : ch 0 9 = nI ln.length) (l3 : ∀ i p, ln[i]? = some p → ch 16 i = nI p) :
    ∃ ch', itr (fun s : Int32 × CM => f_X0_takeFullest_B12 C o s.1 s.2) 2000 (0, pC cm C ch) = some (nI ln.length, pC cm C ch') ∧ keeps [18] ch ch' ∧ ∀ s, s < 16 → ch' 18 s = ch 18 s + nI (cO gs ln s) := by
  have hn := hL.1
  have hl := hL.2.1
  have key := itr_for (step := fun s : Int32 × CM => f_X0_takeFullest_B12 C o s.1 s.2)
    (fun i s => s.1 = nI i ∧ ∃ ch', s.2 = pC cm C ch' ∧ keeps [18] ch ch' ∧ ∀ s, s < 16 → ch' 18 s = ch 18 s + nI (cO gs (ln.take i) s)) ln.length (0, pC cm C ch) (by omega) ⟨rfl, ch, rfl, keeps.rf _ _, fun s _ => by rw [List.take_zero, cO_nil]; exact (Int32.add_zero _).symm⟩ ?_ ?_
  · obtain ⟨⟨a, m'⟩, hI, h9, ch', h8, hk, k18⟩ := key
    dsimp only at h8 h9
    subst h8; subst h9
    rw [List.take_of_length_le (Nat.le_refl _)] at k18
    exact ⟨ch', hI, hk, k18⟩
  · rintro i ⟨a, m'⟩ hi ⟨h9, ch', h8, hk, k18⟩
    dsimp only at h8 h9
    subst h8; subst h9
    dsimp only
    have hp := List.getElem?_eq_getElem hi
    generalize ln[i] = p at hp
    have hpn : p < n := hL.2.2.2 p (List.mem_of_getElem? hp)
    obtain ⟨ch2, c1, c2, c3⟩ := oadd (cm := cm) (C := C) (ch := ch') (gs p) 1
    refine ⟨(nI (i + 1), pC cm C ch2), ?_, rfl, ch2, rfl, hk.tr c2 (by decide), fun s hs => ?_⟩
    · unfold f_X0_takeFullest_B12
      rw [pC_s, hk 0 (by decide), l1, ifle (by omega) (by omega), if_neg (by omega), rowget (by omega) (by omega), pC_s, hk 16 (by decide), l3 i p hp, Option.bind_some, og_48 (by omega), pC_n _ _ hoC, hg p hpn, Option.bind_some, c1, Option.bind_some, nI_1]
    · rw [c3 s hs, k18 s hs, List.take_add_one, hp, Option.toList_some, cO_app, cO_one, ← addif1, Int32.add_assoc]
  · rintro ⟨a, m'⟩ ⟨h9, ch', h8, hk, -⟩
    dsimp only at h8 h9
    subst h8; subst h9
    dsimp only
    unfold f_X0_takeFullest_B12
    rw [pC_s, hk 0 (by decide), l1, ifle (by omega) (by omega), if_pos (by omega)]
theorem fil16 (gs : Nat → Int32) (r : Nat → Nat) (T : List Nat) : fil gs r T ≤ 16 := mnN_le16 _ _
theorem fil_app_nil (gs : Nat → Int32) (r : Nat → Nat) (T : List Nat) : fil gs r (T ++ []) = fil gs r T := by rw [List.append_nil]
theorem take_full {cm : CM} {C o k n : Nat} {ln : List Nat} {ch0 mm0 ch mm : MM} {fg : Nat → Nat} {lf : Nat} (hk : k < 4) (hoC : o ≠ C) (hG : GR (cm o 1) (mm0 1) n) (hO : ∀ p, p < n → ∃ x, x < 16 ∧ mm0 1 (8 * p + 3) = nI x) (hL : okL ln n) (hf : lf ≤ ln.length) (hv : ∀ i, i < 16 → ch0 6 i = nI (fg i) ∧ mm0 5 i = nI (fg i) ∧ fg i ≤ 5) (l1 : LR ln ch0 mm0) (h : TT k n ln ch0 mm0 ch mm) (hz : ∀ i, i < ln.length → mm 12 i = 0) :
    ∃ ch' mm', f_X0_takeFullest (pC cm C ch) C o (nI k) (nI lf) = some (pC cm C ch') ∧ f_X7_takeFilling mm (nI k) (nI lf) = some mm' ∧ TT k n ln ch0 mm0 ch' mm' := by
  obtain ⟨l1, l2, l3⟩ := l1
  have hn := hL.1
  have hl := hL.2.1
  obtain ⟨gs, hgs⟩ : ∃ gs : Nat → Int32, ∀ p, gs p = mm0 1 (8 * p + 3) := ⟨_, fun _ => rfl⟩
  obtain ⟨f, hfe⟩ : ∃ f : Nat → Nat, ∀ g, f g = fg (4 * k + g) := ⟨_, fun _ => rfl⟩
  have hf5 : ∀ g, g < 4 → f g ≤ 5 := fun g hg => by rw [hfe]; exact (hv _ (by omega)).2.2
  have hr20 : ∀ s, rsS f s 4 ≤ 20 := fun s => rsS_le' 4 hf5
  have hgc : ∀ p, p < n → cm o 1 (48 + p) = gs p := fun p hp => by rw [hgs]; exact (hG.2.2.1 p hp).2.1
  have hok : ∀ p, p < n → ∃ x, x < 16 ∧ gs p = nI x := fun p hp => by rw [hgs]; exact hO p hp
  obtain ⟨ch1, a1, a2, a3, -⟩ := obegin (cm := cm) (C := C) (ch := ch) (f := f) hk (fun g hg => by rw [h.1 6 (by decide), (hv (4 * k + g) (by omega)).1, hfe])
  have t1 := h.kp a2 (keeps.rf _ _)
  obtain ⟨ch2, b1, b2, b3⟩ := oline (cm := cm) (C := C) (o := o) (ln := ln) (ch := ch1) (gs := gs) hoC hL hgc (t1.2.1.trans l1) (fun i p hi => by rw [t1.1 16 (by decide)]; exact (l3 i p hi).1)
  have x55 : f_X5_fill (pC cm C ch2) C = some (nI (fil gs (fun s => rsS f s 4) ln)) := by
    rw [ofill, mnf_nI (f := fun s => rsS f s 4 + cO gs ln s) 16 (fun s hs => ⟨by rw [b3 s hs, a3 s hs, nI_add], by have := hr20 s; have := cO_le gs ln s; omega⟩)]
    rfl
  have t2 := t1.kp (b2.wd (by decide)) (keeps.rf _ _)
  obtain ⟨ch3, d1, d2, d3, -⟩ := obegin (cm := cm) (C := C) (ch := ch2) (f := f) hk (fun g hg => by rw [t2.1 6 (by decide), (hv (4 * k + g) (by omega)).1, hfe])
  have t3 := t2.kp d2 (keeps.rf _ _)
  obtain ⟨m1, e1, e2, e3⟩ := mleave (mm := mm) (f := f) hk (fun g hg => by rw [h.2.2.2.1 5 (by decide), (hv (4 * k + g) (by omega)).2.1, hfe])
  obtain ⟨m2, e4, e5, e6⟩ := msum (mm := m1) (f := f) e3
  obtain ⟨m3, e7, e8, e9⟩ := mno (mm := m2)
  have q3 : keeps [13, 14, 15, 16] mm m3 := ((e2.wd (by decide)).tr (e5.wd (by decide) : keeps [13, 14, 15, 16] m1 m2) (by decide)).tr e8 (by decide)
  have t4 := t3.kp (keeps.rf _ _) q3
  obtain ⟨m4, e10, e11, e12⟩ := mbehind (mm := m3) (ln := ln) hL (by rw [t4.2.2.2.1 0 (by decide)]; exact l2) (fun i p hi => by rw [t4.2.2.2.1 11 (by decide)]; exact (l3 i p hi).2)
  have t5 := t4.kp (keeps.rf _ _) (e11.wd (by decide))
  have egs : (fun p => m3 1 (8 * p + 3)) = gs := by
    funext p
    rw [hgs, t4.2.2.2.1 1 (by decide)]
  rw [egs] at e12
  have c13 : ∀ s, s < 16 → m4 13 s = nI (rsS f s 4) := fun s hs => by rw [e11 13 (by decide), e8 13 (by decide)]; exact e6 s hs
  have c14 : ∀ s, s < 16 → m4 14 s = 0 := fun s hs => by rw [e11 14 (by decide)]; exact e9 s hs
  have c12 : ∀ i, i < ln.length → m4 12 i = 0 := fun i hi => by rw [e11 12 (by decide), q3 12 (by decide)]; exact hz i hi
  have x19 : f_X7_leastCut m4 0 = some (nI (fil gs (fun s => rsS f s 4) ln)) := by
    rw [show (0 : Int32) = nI 0 from rfl, mcutI (by omega), mnf_nI (f := fun s => rsS f s 4 + cO gs ln s) 16 (fun s hs => ⟨by rw [c13 s hs, c14 s hs, e12 0 (by omega) s hs, Int32.add_zero, nI_add, List.drop_zero], by have := hr20 s; have := cO_le gs ln s; omega⟩)]
    rfl
  have hF16 := fil16 gs (fun s => rsS f s 4) ln
  generalize hF : fil gs (fun s => rsS f s 4) ln = F at x55 x19 hF16
  obtain ⟨G, g1, g2, g3, g4⟩ : ∃ G, G ≤ F ∧ G ≤ lf ∧ (if nI F < nI lf then nI F else nI lf) = nI G ∧ ((if nI lf ≤ nI F then some (nI lf) else some (nI F)) : Option Int32) = some (nI G) := by
    rw [iflt (by omega) (by omega), ifle (by omega) (by omega)]
    by_cases e : F < lf
    · exact ⟨F, by omega, by omega, if_pos e, if_neg (by omega)⟩
    · exact ⟨lf, by omega, by omega, if_neg e, if_pos (by omega)⟩
  unfold f_X0_takeFullest f_X7_takeFilling
  rw [a1, Option.bind_some, b1, Option.bind_some]
  dsimp only
  rw [x55, Option.bind_some, d1, Option.bind_some, e1, Option.bind_some, e4, Option.bind_some, e7, Option.bind_some, e10, Option.bind_some, x19, Option.bind_some, g4, Option.bind_some]
  have key := itr2 (st1 := fun s : Int32 × Int32 × CM => f_X0_takeFullest_B78 C o (nI k) (nI lf) (nI F) s.1 s.2.1 s.2.2) (st2 := fun s : Int32 × Int32 × MM => f_X7_takeFilling_B40 (nI G) s.1 s.2.1 s.2.2)
    (fun i s1 s2 => ∃ T L ch', s1 = (nI L, nI i, pC cm C ch') ∧ s2.1 = nI L ∧ s2.2.1 = nI i ∧ TT k n ln ch0 mm0 ch' s2.2.2 ∧ T.length ≤ i ∧ okG gs T ∧ L ≤ ln.length - i ∧ G ≤ fil gs (fun s => rsS f s 4) T + L ∧ G ≤ fil gs (fun s => rsS f s 4) (T ++ ln.drop i) ∧ (∀ s, s < 16 → ch' 18 s = nI (rsS f s 4 + cO gs T s)) ∧ (∀ s, s < 16 → s2.2.2 13 s = nI (rsS f s 4) ∧ s2.2.2 14 s = nI (cO gs T s)) ∧ s2.2.2 15 = m4 15 ∧ ∀ j, i ≤ j → j < ln.length → s2.2.2 12 j = 0)
    (fun o1 o2 => ∃ ch', o1.2.2 = pC cm C ch' ∧ TT k n ln ch0 mm0 ch' o2.2.2) ln.length ?_ ?_ 2000 0 (nI lf, 0, pC cm C ch3) (nI lf, 0, m4) (Nat.zero_le _) (by omega) ⟨[], lf, ch3, rfl, rfl, rfl, t5, Nat.le_refl _, fun p hp => absurd hp (List.not_mem_nil), hf, by omega, by rw [List.nil_append, List.drop_zero, hF]; exact g1, fun s hs => by rw [d3 s hs, cO_nil]; rfl, fun s hs => ⟨c13 s hs, by dsimp only; rw [c14 s hs, cO_nil]; rfl⟩, rfl, fun j _ hj => c12 j hj⟩
  · obtain ⟨⟨a1, b1, m1⟩, ⟨a2, b2, m2⟩, i1, i2, ch', e1, e2⟩ := key
    dsimp only at e1 e2
    subst e1
    rw [i1, i2, Option.bind_some, Option.bind_some]
    exact ⟨ch', m2, rfl, rfl, e2⟩
  · rintro i s1 ⟨x, y, m⟩ hi ⟨T, L, ch', rfl, y1, y2, hT, i1, i2, i3, i4, i5, i6, i7, i8, i9⟩
    dsimp only at y1 y2 hT i7 i8 i9
    subst y1; subst y2
    dsimp only
    have hT' := hT
    obtain ⟨w1, w2, w3, w4, w5⟩ := hT
    have hp := List.getElem?_eq_getElem hi
    generalize ln[i] = p at hp
    have hpn : p < n := hL.2.2.2 p (List.mem_of_getElem? hp)
    unfold f_X0_takeFullest_B78 f_X7_takeFilling_B40
    by_cases hz : L = 0
    · subst hz
      refine Or.inr ⟨(nI 0, nI i, pC cm C ch'), (nI 0, nI i, m), ?_, ?_, ch', rfl, hT'⟩
      · rw [pC_s, w2, l1, ifle (by omega) (by omega), if_neg (by omega), if_pos (by decide)]
      · rw [w4 0 (by decide), l2, ifle (by omega) (by omega), if_neg (by omega), if_pos (by decide)]
    · obtain ⟨L, rfl⟩ : ∃ M, L = M + 1 := ⟨L - 1, by omega⟩
      refine Or.inl ?_
      have eC : f_X4_get (pC cm C ch') C 15 16 (nI i) = some (nI p) := by
        rw [rowget (by omega) (by omega), pC_s, w1 16 (by decide), (l3 i p hp).1]
      have eM : ∀ m' : MM, m' 11 = m 11 → rd 16 (m' 11) (nI i) = some (nI p) := by
        intro m' e
        rw [rd_nI _ (by omega) (by omega), e, w4 11 (by decide), (l3 i p hp).2]
      have emg : m 1 (8 * p + 3) = gs p := by rw [hgs, w4 1 (by decide)]
      obtain ⟨ch5, c1, c2, c3⟩ := oadd (cm := cm) (C := C) (ch := ch') (gs p) 1
      obtain ⟨m5, n1, n2, n3⟩ := madd (mm := m) (p := p) (by omega) 1
      rw [emg] at n3
      have hT5 := hT'.kp (c2.wd (by decide)) (n2.wd (by decide))
      have v18 : ∀ s, s < 16 → ch5 18 s = nI (rsS f s 4 + cO gs (T ++ [p]) s) := fun s hs => by rw [c3 s hs, i6 s hs, addif1, cO_app, cO_one, Nat.add_assoc]
      have v14 : ∀ s, s < 16 → m5 14 s = nI (cO gs (T ++ [p]) s) := fun s hs => by rw [n3 s hs, (i7 s hs).2, addif1, cO_app, cO_one]
      have v13 : ∀ s, s < 16 → m5 13 s = nI (rsS f s 4) := fun s hs => by rw [n2 13 (by decide), (i7 s hs).1]
      have lT : (T ++ [p]).length = T.length + 1 := by rw [List.length_append]; rfl
      have bd : ∀ (X : List Nat) s, X.length ≤ 40 → rsS f s 4 + cO gs X s < 2 ^ 30 := fun X s hX => by have := hr20 s; have := cO_le gs X s; omega
      have xf : f_X5_fill (pC cm C ch5) C = some (nI (fil gs (fun s => rsS f s 4) (T ++ [p]))) := by
        rw [ofill, mnf_nI (f := fun s => rsS f s 4 + cO gs (T ++ [p]) s) 16 (fun s hs => ⟨v18 s hs, bd _ s (by omega)⟩)]
        rfl
      have xm : f_X7_leastCut m5 (-9) = some (nI (fil gs (fun s => rsS f s 4) (T ++ [p]))) := by
        rw [mcut9, mnf_nI (f := fun s => rsS f s 4 + cO gs (T ++ [p]) s) 16 (fun s hs => ⟨by rw [v13 s hs, v14 s hs, nI_add], bd _ s (by omega)⟩)]
        rfl
      have hdr := drop_cons hp
      have edr : fil gs (fun s => rsS f s 4) (T ++ ln.drop i) = fil gs (fun s => rsS f s 4) (T ++ [p] ++ ln.drop (i + 1)) := by rw [hdr, List.append_assoc]; rfl
      have xb : f_X7_leastCut m5 (nI i + 1) = some (nI (fil gs (fun s => rsS f s 4) (T ++ ln.drop i))) := by
        rw [nI_1, mcutI (by omega), edr, mnf_nI (f := fun s => rsS f s 4 + cO gs (T ++ [p] ++ ln.drop (i + 1)) s) 16 (fun s hs => ⟨by rw [v13 s hs, v14 s hs, n2 15 (by decide), i8, e12 (i + 1) (by omega) s hs, nI_add, nI_add, cO_app gs (T ++ [p]), Nat.add_assoc], bd _ s (by rw [List.length_append, lT, List.length_drop]; omega)⟩)]
        rfl
      have hm := fil_mono (gs := gs) (r := fun s => rsS f s 4) T [p]
      have h16a := fil16 gs (fun s => rsS f s 4) (T ++ [p])
      have h16b := fil16 gs (fun s => rsS f s 4) (T ++ ln.drop i)
      have hsum : nI (fil gs (fun s => rsS f s 4) (T ++ [p])) + nI (L + 1) - 1 = nI (fil gs (fun s => rsS f s 4) (T ++ [p]) + L) := by
        rw [nI_add, ← Nat.add_assoc]; exact nI_pred _
      by_cases ht : fil gs (fun s => rsS f s 4) (T ++ [p]) + L < G
      · obtain ⟨ch6, j1, j2, j3⟩ := oadd (cm := cm) (C := C) (ch := ch5) (gs p) (-1)
        obtain ⟨m6, k1, k2, k3⟩ := madd (mm := m5) (p := p) (by omega) (-1)
        rw [n2 1 (by decide), emg] at k3
        have hT6 := hT5.kp (j2.wd (by decide)) (k2.wd (by decide))
        have heq : fil gs (fun s => rsS f s 4) (T ++ [p]) = fil gs (fun s => rsS f s 4) T := by omega
        have hokD : okG gs (ln.drop (i + 1)) := fun q hq => hok q (hL.2.2.2 q (List.mem_of_mem_drop hq))
        have hsp := fil_span (gs := gs) (f := f) (T := T) (R := ln.drop (i + 1)) (p := p) i2 hokD (by omega) (hok p hpn) heq
        have had := fil_add (gs := gs) (r := fun s => rsS f s 4) (T ++ [p]) (ln.drop (i + 1))
        rw [List.length_drop] at had
        refine ⟨(nI (L + 1), nI (i + 1), pC cm C ch6), (nI (L + 1), nI (i + 1), m6), ?_, ?_, T, L + 1, ch6, rfl, rfl, rfl, hT6, by omega, i2, ?_, i4, by omega, fun s hs => ?_, fun s hs => ⟨?_, ?_⟩, ?_, fun j h1 h2 => ?_⟩
        · rw [pC_s, w2, l1, ifle (by omega) (by omega), if_neg (by omega), if_neg (nI_nle (by omega) (by omega)), eC, Option.bind_some, og_48 (by omega), pC_n _ _ hoC, hgc p hpn, Option.bind_some, c1, Option.bind_some, xf, Option.bind_some, g3, hsum, iflt (by omega) (by omega), if_pos ht, og_48 (by omega), pC_n _ _ hoC, hgc p hpn, Option.bind_some, j1, Option.bind_some, nI_1]
        · rw [w4 0 (by decide), l2, ifle (by omega) (by omega), if_neg (by omega), if_neg (nI_nle (by omega) (by omega)), eM m rfl, Option.bind_some, n1, Option.bind_some, xm, Option.bind_some, hsum, iflt (by omega) (by omega), if_pos ht, Option.bind_some, if_pos rfl, eM m5 (n2 11 (by decide)), Option.bind_some, k1, Option.bind_some, nI_1]
        · omega
        · rw [j3 s hs, v18 s hs, cO_app, cO_one, ← Nat.add_assoc, addifm]
        · dsimp only
          rw [k2 13 (by decide), v13 s hs]
        · dsimp only
          rw [k3 s hs, v14 s hs, cO_app, cO_one, addifm]
        · dsimp only
          rw [k2 15 (by decide), n2 15 (by decide), i8]
        · dsimp only
          rw [k2 12 (by decide), n2 12 (by decide)]
          exact i9 j (by omega) h2
      · have hz0 : m5 12 i = 0 := by rw [n2 12 (by decide)]; exact i9 i (Nat.le_refl _) hi
        have hm9 : m5 9 p = -9 := by
          rcases (hT5.2.2.2.2.1 i p hp).2 with ⟨q, -⟩ | ⟨-, -, -, q⟩
          · rw [hz0] at q; exact absurd q (by decide)
          · exact q
        refine ⟨(nI L, nI (i + 1), pC cm C (tkC ch5 p k (-9))), (nI L, nI (i + 1), u2 m5 12 (upd (m5 12) i 1)), ?_, ?_, T ++ [p], L, tkC ch5 p k (-9), rfl, rfl, rfl, TT_take (g := -9) (mm' := u2 m5 12 (upd (m5 12) i 1)) hL hT5 hp hz0 (by rw [u2_s]) (by rw [u2_n _ _ (by decide), ← hm9, upd_self]) ((keeps.rf _ _).up (by decide)) (Or.inl rfl), by omega, ?_, by omega, by omega, ?_, fun s hs => ?_, fun s hs => ⟨?_, ?_⟩, ?_, fun j h1 h2 => ?_⟩
        · rw [pC_s, w2, l1, ifle (by omega) (by omega), if_neg (by omega), if_neg (nI_nle (by omega) (by omega)), eC, Option.bind_some, og_48 (by omega), pC_n _ _ hoC, hgc p hpn, Option.bind_some, c1, Option.bind_some, xf, Option.bind_some, g3, hsum, iflt (by omega) (by omega), if_neg ht, otake (by omega), Option.bind_some, nI_1, pk_m1]
        · rw [w4 0 (by decide), l2, ifle (by omega) (by omega), if_neg (by omega), if_neg (nI_nle (by omega) (by omega)), eM m rfl, Option.bind_some, n1, Option.bind_some, xm, Option.bind_some, hsum, iflt (by omega) (by omega), if_neg ht, xb, Option.bind_some, iflt (by omega) (by omega), if_neg (by omega), Option.bind_some, if_neg (by decide), n2 0 (by decide), w4 0 (by decide), l2, pk_sub (by omega), show ln.length - i = (ln.length - i - 1) + 1 by omega, nI_pred, nI_pred, iflt (by omega) (by omega), if_neg (by omega), wr_nI _ _ (by omega) (by omega), Option.bind_some, nI_1, pk_m1]
        · intro q hq
          rcases List.mem_append.mp hq with h | h
          · exact i2 q h
          · rw [List.mem_singleton.mp h]; exact hok p hpn
        · rw [← edr]; exact i5
        · rw [tk_kp 18 (by decide)]; exact v18 s hs
        · dsimp only
          rw [u2_n _ _ (by decide)]; exact v13 s hs
        · dsimp only
          rw [u2_n _ _ (by decide)]; exact v14 s hs
        · dsimp only
          rw [u2_n _ _ (by decide), n2 15 (by decide)]; exact i8
        · dsimp only
          rw [u2_s, upd_n _ _ (by omega), n2 12 (by decide)]
          exact i9 j (by omega) h2
  · rintro s1 ⟨x, y, m⟩ ⟨T, L, ch', rfl, y1, y2, hT, -⟩
    dsimp only at y1 y2 hT
    subst y1; subst y2
    dsimp only
    unfold f_X0_takeFullest_B78 f_X7_takeFilling_B40
    refine ⟨(nI L, nI ln.length, pC cm C ch'), (nI L, nI ln.length, m), ?_, ?_, ch', rfl, hT⟩
    · rw [pC_s, hT.2.1, l1, ifle (by omega) (by omega), if_pos (by omega)]
    · rw [hT.2.2.2.1 0 (by decide), l2, ifle (by omega) (by omega), if_pos (by omega)]
