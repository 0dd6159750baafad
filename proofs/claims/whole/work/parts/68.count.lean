/-! PURE PART: tallies of those taken; counting to groups on both sides -/
def tkB (mm : MM) (k p : Nat) : Bool := decide (mm 8 p = nI k ∧ mm 10 p = 0)
theorem cO_perm {gs : Nat → Int32} {a b : List Nat} (h : a.Perm b) (s : Nat) : cO gs a s = cO gs b s := h.countP_eq _
theorem fil_perm {gs : Nat → Int32} {r : Nat → Nat} {a b : List Nat} (h : a.Perm b) : fil gs r a = fil gs r b := by
  unfold fil
  exact mnN_congr (fun s _ => by rw [cO_perm h])
theorem TLc.pm {gs : Nat → Int32} {f : Nat → Nat} {a b : List Nat} {ch : MM} (h : TLc gs f a ch) (hp : a.Perm b) : TLc gs f b ch := ⟨fun s hs => by rw [h.1 s hs, cO_perm hp], h.2⟩
theorem TLm.pm {gs : Nat → Int32} {f : Nat → Nat} {a b : List Nat} {mm : MM} (h : TLm gs f a mm) (hp : a.Perm b) : TLm gs f b mm := ⟨h.1, fun s hs => by rw [h.2.1 s hs, cO_perm hp], h.2.2⟩
theorem okR_perm {rk : List Nat} {n : Nat} (h : okR rk n) : rk.Perm (List.range n) := by
  rw [List.perm_iff_count]
  intro a
  rw [h.2.1.count, List.nodup_range.count]
  by_cases e : a < n
  · rw [if_pos ((h.2.2 a).mpr e), if_pos (List.mem_range.mpr e)]
  · rw [if_neg (fun q => e ((h.2.2 a).mp q)), if_neg (fun q => e (List.mem_range.mp q))]
theorem TLc_add {cm : CM} {C p : Nat} {gs : Nat → Int32} {f : Nat → Nat} {T : List Nat} {ch : MM} (h : TLc gs f T ch) : ∃ ch', f_X5_add (pC cm C ch) C (gs p) 1 = some (pC cm C ch') ∧ keeps [18] ch ch' ∧ TLc gs f (T ++ [p]) ch' := by
  obtain ⟨ch', a1, a2, a3⟩ := oadd (cm := cm) (C := C) (ch := ch) (gs p) 1
  exact ⟨ch', a1, a2, fun s hs => by rw [a3 s hs, h.1 s hs, addif1, cO_app, cO_one, Nat.add_assoc], fun g hg => by rw [a2 20 (by decide)]; exact h.2 g hg⟩
theorem TLc_sub {cm : CM} {C p : Nat} {gs : Nat → Int32} {f : Nat → Nat} {T : List Nat} {ch : MM} (h : TLc gs f (T ++ [p]) ch) : ∃ ch', f_X5_add (pC cm C ch) C (gs p) (-1) = some (pC cm C ch') ∧ keeps [18] ch ch' ∧ TLc gs f T ch' := by
  obtain ⟨ch', a1, a2, a3⟩ := oadd (cm := cm) (C := C) (ch := ch) (gs p) (-1)
  exact ⟨ch', a1, a2, fun s hs => by rw [a3 s hs, h.1 s hs, cO_app, cO_one, ← Nat.add_assoc, addifm], fun g hg => by rw [a2 20 (by decide)]; exact h.2 g hg⟩
theorem TLm_add {p : Nat} {gs : Nat → Int32} {f : Nat → Nat} {T : List Nat} {mm : MM} (hp : p < 16) (hg : mm 1 (8 * p + 3) = gs p) (h : TLm gs f T mm) : ∃ mm', f_X7_addOther mm (nI p) 1 = some mm' ∧ keeps [14] mm mm' ∧ TLm gs f (T ++ [p]) mm' := by
  obtain ⟨mm', a1, a2, a3⟩ := madd (mm := mm) hp 1
  rw [hg] at a3
  exact ⟨mm', a1, a2, fun s hs => by rw [a2 13 (by decide)]; exact h.1 s hs, fun s hs => by rw [a3 s hs, h.2.1 s hs, addif1, cO_app, cO_one], fun g hg => by rw [a2 16 (by decide)]; exact h.2.2 g hg⟩
theorem TLm_sub {p : Nat} {gs : Nat → Int32} {f : Nat → Nat} {T : List Nat} {mm : MM} (hp : p < 16) (hg : mm 1 (8 * p + 3) = gs p) (h : TLm gs f (T ++ [p]) mm) : ∃ mm', f_X7_addOther mm (nI p) (-1) = some mm' ∧ keeps [14] mm mm' ∧ TLm gs f T mm' := by
  obtain ⟨mm', a1, a2, a3⟩ := madd (mm := mm) hp (-1)
  rw [hg] at a3
  exact ⟨mm', a1, a2, fun s hs => by rw [a2 13 (by decide)]; exact h.1 s hs, fun s hs => by rw [a3 s hs, h.2.1 s hs, cO_app, cO_one, addifm], fun g hg => by rw [a2 16 (by decide)]; exact h.2.2 g hg⟩
theorem range_fil (B : Nat → Bool) (i : Nat) : (List.range (i + 1)).filter B = (List.range i).filter B ++ if B i = true then [i] else [] := by
  rw [List.range_succ, List.filter_append]
  congr 1
  cases h : B i <;> simp [h]
theorem otally {cm : CM} {C o n k : Nat} {ch : MM} {gs : Nat → Int32} {f : Nat → Nat} {B : Nat → Bool} (hoC : o ≠ C) (hk : k < 4) (hn : n ≤ 16) (hc : ch 0 10 = nI n) (hf : ∀ g, g < 4 → ch 6 (4 * k + g) = nI (f g)) (hg : ∀ p, p < n → cm o 1 (48 + p) = gs p) (hB : ∀ p, p < n → ((ch 10 p = nI k ∧ ch 14 p = 0) ↔ B p = true)) :
    ∃ ch', f_X0_tallyTaken (pC cm C ch) C o (nI k) = some (pC cm C ch') ∧ keeps [18, 20] ch ch' ∧ TLc gs f ((List.range n).filter B) ch' := by
  obtain ⟨ch1, a1, a2, a3, a4⟩ := obegin (cm := cm) (C := C) (ch := ch) (f := f) hk hf
  have key := itr_for (step := fun s : Int32 × CM => f_X0_tallyTaken_B11 C o (nI k) s.1 s.2)
    (fun i s => s.1 = nI i ∧ ∃ ch', s.2 = pC cm C ch' ∧ keeps [18, 20] ch ch' ∧ TLc gs f ((List.range i).filter B) ch') n (0, pC cm C ch1) (by omega) ⟨rfl, ch1, rfl, a2, fun s hs => by rw [a3 s hs]; rfl, a4⟩ ?_ ?_
  · obtain ⟨⟨x, y⟩, hI, -, ch', e, h1, h2⟩ := key
    dsimp only at e
    subst e
    refine ⟨ch', ?_, h1, h2⟩
    unfold f_X0_tallyTaken
    rw [a1, Option.bind_some, hI, Option.bind_some]
  · rintro i ⟨x, y⟩ hi ⟨e1, ch', e2, h1, h2⟩
    dsimp only at e1 e2
    subst e1; subst e2
    dsimp only
    have e10 : ch' 10 = ch 10 := h1 10 (by decide)
    have e14 : ch' 14 = ch 14 := h1 14 (by decide)
    have hb := hB i hi
    rw [range_fil]
    by_cases h : B i = true
    · obtain ⟨ch2, b1, b2, b3⟩ := TLc_add (cm := cm) (C := C) (p := i) h2
      refine ⟨(nI (i + 1), pC cm C ch2), ?_, rfl, ch2, rfl, h1.tr b2 (by decide), by rw [if_pos h]; exact b3⟩
      unfold f_X0_tallyTaken_B11
      rw [pC_s, h1 0 (by decide), hc, ifle (by omega) (by omega), if_neg (by omega), oisTaken (by omega), Option.bind_some, if10, e10, e14, if_pos (hb.mpr h), og_48 (by omega), pC_n _ _ hoC, hg i hi, Option.bind_some, b1, Option.bind_some, nI_1]
    · refine ⟨(nI (i + 1), pC cm C ch'), ?_, rfl, ch', rfl, h1, by rw [if_neg h, List.append_nil]; exact h2⟩
      unfold f_X0_tallyTaken_B11
      rw [pC_s, h1 0 (by decide), hc, ifle (by omega) (by omega), if_neg (by omega), oisTaken (by omega), Option.bind_some, if10, e10, e14, if_neg (fun q => h (hb.mp q)), nI_1]
  · rintro ⟨x, y⟩ ⟨e1, ch', e2, h1, h2⟩
    dsimp only at e1 e2
    subst e1; subst e2
    dsimp only
    unfold f_X0_tallyTaken_B11
    rw [pC_s, h1 0 (by decide), hc, ifle (by omega) (by omega), if_pos (by omega)]
theorem mbegin {mm : MM} {k : Nat} {gs : Nat → Int32} {f : Nat → Nat} (hk : k < 4) (hf : ∀ g, g < 4 → mm 5 (4 * k + g) = nI (f g)) : ∃ m1 m2 m3, f_X7_leaveAll mm (nI k) = some m1 ∧ f_X7_sumHave m1 = some m2 ∧ f_X7_noOthers m2 = some m3 ∧ keeps [13, 14, 16] mm m3 ∧ TLm gs f [] m3 := by
  obtain ⟨m1, a1, a2, a3⟩ := mleave (mm := mm) (f := f) hk hf
  obtain ⟨m2, b1, b2, b3⟩ := msum (mm := m1) (f := f) a3
  obtain ⟨m3, c1, c2, c3⟩ := mno (mm := m2)
  refine ⟨m1, m2, m3, a1, b1, c1, ((a2.wd (by decide)).tr b2 (by decide)).tr c2 (by decide), fun s hs => by rw [c2 13 (by decide)]; exact b3 s hs, fun s hs => by rw [c3 s hs]; rfl, fun g hg => by rw [c2 16 (by decide), b2 16 (by decide)]; exact a3 g hg⟩
theorem mtally_p {mm : MM} {n k : Nat} {gs : Nat → Int32} {f : Nat → Nat} {B : Nat → Bool} (hn : n ≤ 16) (hc : mm 1 157 = nI n) (hg : ∀ p, p < n → mm 1 (8 * p + 3) = gs p) (hB : ∀ p, p < n → ((mm 8 p = nI k ∧ mm 10 p = 0) ↔ B p = true)) (h0 : TLm gs f [] mm) :
    ∃ a mm', itr (fun s : Int32 × MM => f_X7_fillOf_B15 (nI k) s.1 s.2) 2000 (0, mm) = some (a, mm') ∧ keeps [14] mm mm' ∧ TLm gs f ((List.range n).filter B) mm' := by
  have key := itr_for (step := fun s : Int32 × MM => f_X7_fillOf_B15 (nI k) s.1 s.2)
    (fun i s => s.1 = nI i ∧ keeps [14] mm s.2 ∧ TLm gs f ((List.range i).filter B) s.2) n (0, mm) (by omega) ⟨rfl, keeps.rf _ _, h0⟩ ?_ ?_
  · obtain ⟨⟨x, y⟩, hI, -, h1, h2⟩ := key
    exact ⟨x, y, hI, h1, h2⟩
  · rintro i ⟨x, m'⟩ hi ⟨e1, h1, h2⟩
    dsimp only at e1 h1 h2
    subst e1
    dsimp only
    have e8 : m' 8 = mm 8 := h1 8 (by decide)
    have e10 : m' 10 = mm 10 := h1 10 (by decide)
    have e1 : m' 1 = mm 1 := h1 1 (by decide)
    have hb := hB i hi
    rw [range_fil]
    by_cases h : B i = true
    · obtain ⟨m2, b1, b2, b3⟩ := TLm_add (p := i) (by omega) (by rw [e1]; exact hg i hi) h2
      refine ⟨(nI (i + 1), m2), ?_, rfl, h1.tr b2 (by decide), by rw [if_pos h]; exact b3⟩
      unfold f_X7_fillOf_B15
      rw [rd_157, Option.bind_some, e1, hc, ifle (by omega) (by omega), if_neg (by omega), misTaken (by omega), Option.bind_some, if10, e8, e10, if_pos (hb.mpr h), b1, Option.bind_some, nI_1]
    · refine ⟨(nI (i + 1), m'), ?_, rfl, h1, by rw [if_neg h, List.append_nil]; exact h2⟩
      unfold f_X7_fillOf_B15
      rw [rd_157, Option.bind_some, e1, hc, ifle (by omega) (by omega), if_neg (by omega), misTaken (by omega), Option.bind_some, if10, e8, e10, if_neg (fun q => h (hb.mp q)), nI_1]
  · rintro ⟨x, m'⟩ ⟨e1, h1, h2⟩
    dsimp only at e1 h1
    subst e1
    dsimp only
    unfold f_X7_fillOf_B15
    rw [rd_157, Option.bind_some, h1 1 (by decide), hc, ifle (by omega) (by omega), if_pos (by omega)]
theorem mtally_r {mm : MM} {n k : Nat} {rk : List Nat} {gs : Nat → Int32} {f : Nat → Nat} {B : Nat → Bool} (hn : n ≤ 16) (hR : okR rk n) (h3 : ∀ r p, rk[r]? = some p → mm 3 r = nI p) (hc : mm 1 157 = nI n) (hg : ∀ p, p < n → mm 1 (8 * p + 3) = gs p) (hB : ∀ p, p < n → ((mm 8 p = nI k ∧ mm 10 p = 0) ↔ B p = true)) (h0 : TLm gs f [] mm) :
    ∃ a mm', itr (fun s : Int32 × MM => f_X7_countIn_B15 (nI k) s.1 s.2) 2000 (0, mm) = some (a, mm') ∧ keeps [14] mm mm' ∧ TLm gs f (rk.filter B) mm' := by
  have key := itr_for (step := fun s : Int32 × MM => f_X7_countIn_B15 (nI k) s.1 s.2)
    (fun i s => s.1 = nI i ∧ keeps [14] mm s.2 ∧ TLm gs f ((rk.take i).filter B) s.2) n (0, mm) (by omega) ⟨rfl, keeps.rf _ _, h0⟩ ?_ ?_
  · obtain ⟨⟨x, y⟩, hI, -, h1, h2⟩ := key
    rw [List.take_of_length_le (by rw [hR.1]; exact Nat.le_refl _)] at h2
    exact ⟨x, y, hI, h1, h2⟩
  · rintro i ⟨x, m'⟩ hi ⟨e1, h1, h2⟩
    dsimp only at e1 h1 h2
    subst e1
    dsimp only
    obtain ⟨p, hp⟩ : ∃ p, rk[i]? = some p := ⟨rk[i]'(by rw [hR.1]; exact hi), List.getElem?_eq_getElem _⟩
    have hpn : p < n := (hR.2.2 p).mp (List.mem_of_getElem? hp)
    have e8 : m' 8 = mm 8 := h1 8 (by decide)
    have e10 : m' 10 = mm 10 := h1 10 (by decide)
    have e1 : m' 1 = mm 1 := h1 1 (by decide)
    have e3 : m' 3 i = nI p := by rw [h1 3 (by decide)]; exact h3 i p hp
    have hb := hB p hpn
    have htk : (rk.take (i + 1)).filter B = (rk.take i).filter B ++ if B p = true then [p] else [] := by
      rw [List.take_add_one, hp, List.filter_append]
      congr 1
      cases h : B p <;> simp [h]
    rw [htk]
    by_cases h : B p = true
    · obtain ⟨m2, b1, b2, b3⟩ := TLm_add (p := p) (by omega) (by rw [e1]; exact hg p hpn) h2
      refine ⟨(nI (i + 1), m2), ?_, rfl, h1.tr b2 (by decide), by rw [if_pos h]; exact b3⟩
      unfold f_X7_countIn_B15
      rw [rd_157, Option.bind_some, e1, hc, ifle (by omega) (by omega), if_neg (by omega), rd_nI _ (by omega) (by omega), e3, Option.bind_some, misTaken (by omega), Option.bind_some, if10, e8, e10, if_pos (hb.mpr h), Option.bind_some, b1, Option.bind_some, nI_1]
    · refine ⟨(nI (i + 1), m'), ?_, rfl, h1, by rw [if_neg h, List.append_nil]; exact h2⟩
      unfold f_X7_countIn_B15
      rw [rd_157, Option.bind_some, e1, hc, ifle (by omega) (by omega), if_neg (by omega), rd_nI _ (by omega) (by omega), e3, Option.bind_some, misTaken (by omega), Option.bind_some, if10, e8, e10, if_neg (fun q => h (hb.mp q)), nI_1]
  · rintro ⟨x, m'⟩ ⟨e1, h1, h2⟩
    dsimp only at e1 h1
    subst e1
    dsimp only
    unfold f_X7_countIn_B15
    rw [rd_157, Option.bind_some, h1 1 (by decide), hc, ifle (by omega) (by omega), if_pos (by omega)]
theorem tkB_c {n k : Nat} {ch mm : MM} (hC : RC n ch mm) : ∀ p, p < n → ((ch 10 p = nI k ∧ ch 14 p = 0) ↔ tkB mm k p = true) := by
  intro p hp
  obtain ⟨r1, -, r3, -⟩ := hC.1 p hp
  unfold tkB
  rw [r1, r3, decide_eq_true_eq]
theorem tkB_m {mm : MM} {k : Nat} : ∀ p, ((mm 8 p = nI k ∧ mm 10 p = 0) ↔ tkB mm k p = true) := by
  intro p
  unfold tkB
  rw [decide_eq_true_eq]
theorem len_fil {l : List Nat} {B : Nat → Bool} {n : Nat} (h : l.length ≤ n) : (l.filter B).length ≤ n := Nat.le_trans (List.length_filter_le _ _) h
/-- one kind's counting, on both sides -/
theorem count_in {cm : CM} {C o n k : Nat} {m : Nat → Int32} {rk : List Nat} {fr fg : Nat → Nat} {ch mm : MM} (hoC : o ≠ C) (hG : GR (cm o 1) m n) (hV : okV m n) (hR : okR rk n) (hC : CH (cm o 1) m n rk fr fg ch mm) (hk : k < 4) :
    ∃ ch' mm', f_X0_assignGroups_B15 C o (nI k) (pC cm C ch) = some (.inr (nI (k + 1), pC cm C ch')) ∧ f_X7_countIn mm (nI k) = some mm' ∧ CH (cm o 1) m n rk fr fg ch' mm' ∧ keeps [9, 13, 14, 16] mm mm' ∧ keeps [12, 18, 20] ch ch' := by
  obtain ⟨hS, hRC, hN, hT⟩ := hC
  have hn := hG.2.1
  have hm1 := hS.2.1
  obtain ⟨gs, hgs⟩ : ∃ gs : Nat → Int32, ∀ p, gs p = m (8 * p + 3) := ⟨_, fun _ => rfl⟩
  obtain ⟨f, hfe⟩ : ∃ f : Nat → Nat, ∀ g, f g = fg (4 * k + g) := ⟨_, fun _ => rfl⟩
  have hf5 : f5 f := fun g hg => by rw [hfe]; exact (hS.2.2.2.2.1 _ (by omega)).2.2
  have hgc : ∀ p, p < n → cm o 1 (48 + p) = gs p := fun p hp => by rw [hgs]; exact (hG.2.2.1 p hp).2.1
  have hok : ∀ p, p < n → ∃ x, x < 16 ∧ gs p = nI x := fun p hp => by rw [hgs]; exact hV p hp
  obtain ⟨ch1, a1, a2, a3⟩ := otally (cm := cm) (C := C) (o := o) (ch := ch) (gs := gs) (f := f) hoC hk hn hS.1 (fun g hg => by rw [hfe]; exact (hS.2.2.2.2.1 _ (by omega)).1) hgc (tkB_c (k := k) hRC)
  obtain ⟨m1, m2, m3, b1, b2, b3, b4, b5⟩ := mbegin (mm := mm) (gs := gs) (f := f) hk (fun g hg => by rw [hfe]; exact (hS.2.2.2.2.1 _ (by omega)).2.1)
  obtain ⟨x, m4, c1, c2, c3⟩ := mtally_r (mm := m3) (k := k) (rk := rk) (B := tkB mm k) hn hR (fun r p hr => by rw [b4 3 (by decide)]; exact (hS.2.2.1 r p hr).2) (by rw [b4 1 (by decide), hm1]; exact hG.1) (fun p _ => by rw [b4 1 (by decide), hm1, hgs]) (fun p _ => by rw [b4 8 (by decide), b4 10 (by decide)]; exact tkB_m p) b5
  have k4 : keeps [9, 13, 14, 16] mm m4 := (b4.wd (by decide)).tr c2 (by decide)
  have a4 := a3.pm ((okR_perm hR).symm.filter (tkB mm k))
  have hlen : (rk.filter (tkB mm k)).length ≤ 16 := len_fil (by rw [hR.1]; exact hn)
  have xc := TLm_cut (gs := gs) (mm := m4) hf5 hlen c3.1 c3.2.1
  have key := itr2_for (st1 := fun s : Int32 × CM => f_X0_assignGroups_B28 C o (nI k) s.1 s.2) (st2 := fun s : Int32 × Int32 × MM => f_X7_countIn_B67 (nI k) s.1 s.2.1 s.2.2)
    (fun r s1 s2 => ∃ ch' f', s1 = (nI r, pC cm C ch') ∧ s2.1 = nI (fil gs (fun s => rsS f' s 4) ((rk.drop r).filter (tkB mm k))) ∧ s2.2.1 = nI r ∧ f5 f' ∧ TLc gs f' ((rk.drop r).filter (tkB mm k)) ch' ∧ TLm gs f' ((rk.drop r).filter (tkB mm k)) s2.2.2 ∧ keeps [12, 18, 20] ch ch' ∧ keeps [9, 13, 14, 16] mm s2.2.2 ∧ ∀ p, p < n → ch' 12 p = s2.2.2 9 p ∧ oN (s2.2.2 9 p) 4 ∧ (mm 8 p = -9 → s2.2.2 9 p = -9)) n (0, pC cm C ch1) (nI (fil gs (fun s => rsS f s 4) (rk.filter (tkB mm k))), 0, m4) (by omega) ⟨ch1, f, rfl, by rw [List.drop_zero], rfl, hf5, by rw [List.drop_zero]; exact a4, by rw [List.drop_zero]; exact c3, a2.wd (by decide), k4, fun p hp => ?_⟩ ?_ ?_
  · obtain ⟨⟨x1, y1⟩, ⟨x2, y2, z2⟩, i1, i2, ch', f', e1, -, -, -, -, -, q1, q2, q3⟩ := key
    dsimp only at q2 q3
    obtain ⟨rfl, rfl⟩ := Prod.mk.inj e1
    refine ⟨ch', z2, ?_, ?_, ⟨hS.kp (by rw [q1 0 (by decide)]) (fun q hq => q1 q (by simp at hq ⊢; omega)) (fun q hq => q2 q (by simp at hq ⊢; omega)), ⟨fun p hp => ?_, fun i h1 h2 => ?_⟩, ⟨fun p hp h => ?_, fun p hp h => ?_⟩, hT.kp (q2 6 (by decide)) (q2 8 (by decide)) (q2 10 (by decide))⟩, q2, q1⟩
    · unfold f_X0_assignGroups_B15
      rw [show (4 : Int32) = nI 4 from rfl, ifle (by omega) (by omega), if_neg (by omega), a1, Option.bind_some, i1, Option.bind_some, nI_1]
    · unfold f_X7_countIn
      rw [b1, Option.bind_some, b2, Option.bind_some, b3, Option.bind_some, c1, Option.bind_some]
      dsimp only
      rw [xc, Option.bind_some, i2, Option.bind_some]
    · obtain ⟨r1, r2, r3, r4, r5, r6⟩ := hRC.1 p hp
      obtain ⟨w1, w2, -⟩ := q3 p hp
      rw [q1 10 (by decide), q1 14 (by decide), q1 0 (by decide), q2 8 (by decide), q2 10 (by decide)]
      exact ⟨r1, w1, r3, r4, ⟨r5.1, w2⟩, r6⟩
    · rw [q1 0 (by decide)]; exact hRC.2 i h1 h2
    · rw [q2 8 (by decide)] at h
      rw [q2 10 (by decide)]
      exact ⟨(q3 p hp).2.2 h, (hN.1 p hp h).2⟩
    · rw [q2 8 (by decide)] at h
      rw [q2 1 (by decide)]
      exact hN.2 p hp h
  · dsimp only
    rw [a2 12 (by decide), c2 9 (by decide), b4 9 (by decide)]
    obtain ⟨-, r2, -, -, r5, -⟩ := hRC.1 p hp
    exact ⟨r2, r5.2, fun h => (hN.1 p hp h).1⟩
  · rintro r s1 ⟨x2, y2, z2⟩ hr ⟨ch', f', rfl, e1, e2, hf', q1, q2, q3, q4, q5⟩
    dsimp only at e1 e2 q2 q4 q5
    subst e1; subst e2
    dsimp only
    obtain ⟨p, hp⟩ : ∃ p, rk[r]? = some p := ⟨rk[r]'(by rw [hR.1]; exact hr), List.getElem?_eq_getElem _⟩
    have hpn : p < n := (hR.2.2 p).mp (List.mem_of_getElem? hp)
    have hdr := drop_cons hp
    have hpc : f_X0_personAt (pC cm C ch') C (nI r) = some (nI p) := opers (by omega) (by rw [q3 2 (by decide)]; exact (hS.2.2.1 r p hp).1)
    have hpm : z2 3 r = nI p := by rw [q4 3 (by decide)]; exact (hS.2.2.1 r p hp).2
    have e157 : z2 1 157 = nI n := by rw [q4 1 (by decide), hm1]; exact hG.1
    have ec10 : ch' 0 10 = nI n := by rw [q3 0 (by decide)]; exact hS.1
    have hbc := tkB_c (k := k) hRC p hpn
    rw [← q3 10 (by decide), ← q3 14 (by decide)] at hbc
    have hbm := tkB_m (mm := mm) (k := k) p
    rw [← q4 8 (by decide), ← q4 10 (by decide)] at hbm
    by_cases hb : tkB mm k p = true
    · have hfl : (rk.drop r).filter (tkB mm k) = p :: (rk.drop (r + 1)).filter (tkB mm k) := by rw [hdr, List.filter_cons, if_pos hb]
      rw [hfl] at q1 q2
      have hlt : ((rk.drop (r + 1)).filter (tkB mm k)).length ≤ 15 := len_fil (by rw [List.length_drop, hR.1]; omega)
      have hokT : okG gs ((rk.drop (r + 1)).filter (tkB mm k)) := fun q hq => hok q ((hR.2.2 q).mp (List.mem_of_mem_drop (List.mem_filter.mp hq).1))
      generalize hTT : (rk.drop (r + 1)).filter (tkB mm k) = T at *
      obtain ⟨m5, n1, n2, n3⟩ := TLm_sub (p := p) (gs := gs) (f := f') (T := T) (mm := z2) (by omega) (by rw [q4 1 (by decide), hm1, hgs]) (q2.pm (by simpa using (List.perm_append_singleton p T).symm))
      obtain ⟨v, ch6, m6, f6, j1, j2, j3, j4, j5, j6, j7, j8⟩ := assign_2 (cm := cm) (C := C) (p := p) (gs := gs) (f := f') (T := T) (ch := ch') (mm := m5) (by omega) (hok p hpn) hlt hokT hf' q1 (by rw [n2 1 (by decide), q4 1 (by decide), hm1, hgs]) n3.2.1 n3.2.2
      have hon : oN v 4 := by
        rcases j8 with ⟨rfl, -⟩ | ⟨g, hg, rfl, -⟩
        · exact Or.inl rfl
        · exact Or.inr ⟨g, hg, rfl⟩
      have k6 : keeps [9, 13, 14, 16] mm m6 := (q4.tr n2 (by decide)).tr j4 (by decide)
      refine ⟨(nI (r + 1), pC cm C (u2 ch6 12 (upd (ch6 12) p v))), (nI (fil gs (fun s => rsS f6 s 4) T), nI (r + 1), u2 m6 9 (upd (m6 9) p v)), ?_, ?_, _, f6, rfl, rfl, rfl, j7, ⟨fun s hs => ?_, fun g hg => ?_⟩, ⟨fun s hs => ?_, fun s hs => ?_, fun g hg => ?_⟩, (q3.tr j3 (by decide)).up (by decide), k6.up (by decide), fun q hq => ?_⟩
      · unfold f_X0_assignGroups_B28
        rw [pC_s, ec10, ifle (by omega) (by omega), if_neg (by omega), hpc, Option.bind_some, oisTaken (by omega), Option.bind_some, if10, if_pos (hbc.mpr hb), og_48 (by omega), pC_n _ _ hoC, hgc p hpn, Option.bind_some, j1, Option.bind_some]
        dsimp only
        rw [rowset (by omega) (by omega), Option.bind_some, u3_pC', pC_s, nI_1]
      · unfold f_X7_countIn_B67
        rw [rd_157, Option.bind_some, e157, ifle (by omega) (by omega), if_neg (by omega), rd_nI _ (by omega) (by omega), hpm, Option.bind_some, misTaken (by omega), Option.bind_some, if10, if_pos (hbm.mpr hb), n1, Option.bind_some, hfl, j2, Option.bind_some]
        dsimp only
        rw [wr_nI _ _ (by omega) (by omega), Option.bind_some, u2_s, rd_nI _ (by omega) (by omega), upd_s, Option.bind_some, nI_1]
        rcases j8 with ⟨rfl, j8⟩ | ⟨g, hg, rfl, j8⟩
        · rw [if_pos rfl, j8, Int32.sub_zero]
        · rw [if_neg (m9_ne (by omega)), ← j8, nI_pred]
      · rw [u2_n _ _ (by decide)]; exact j5.1 s hs
      · rw [u2_n _ _ (by decide)]; exact j5.2 g hg
      · dsimp only; rw [u2_n _ _ (by decide)]; exact j6.1 s hs
      · dsimp only; rw [u2_n _ _ (by decide)]; exact j6.2.1 s hs
      · dsimp only; rw [u2_n _ _ (by decide)]; exact j6.2.2 g hg
      · dsimp only
        rw [u2_s, u2_s]
        by_cases e : q = p
        · subst e
          rw [upd_s, upd_s]
          refine ⟨rfl, hon, fun h => ?_⟩
          have := (tkB_m (mm := mm) (k := k) q).mpr hb
          exact absurd (this.1.symm.trans h) (m9_ne (by omega))
        · rw [upd_n _ _ e, upd_n _ _ e, j3 12 (by decide), j4 9 (by decide), n2 9 (by decide)]
          exact q5 q hq
    · have hfl : (rk.drop r).filter (tkB mm k) = (rk.drop (r + 1)).filter (tkB mm k) := by rw [hdr, List.filter_cons, if_neg hb]
      rw [hfl] at q1 q2 ⊢
      refine ⟨(nI (r + 1), pC cm C ch'), (nI (fil gs (fun s => rsS f' s 4) ((rk.drop (r + 1)).filter (tkB mm k))), nI (r + 1), z2), ?_, ?_, ch', f', rfl, rfl, rfl, hf', q1, q2, q3, q4, q5⟩
      · unfold f_X0_assignGroups_B28
        rw [pC_s, ec10, ifle (by omega) (by omega), if_neg (by omega), hpc, Option.bind_some, oisTaken (by omega), Option.bind_some, if10, if_neg (fun q => hb (hbc.mp q)), nI_1]
      · unfold f_X7_countIn_B67
        rw [rd_157, Option.bind_some, e157, ifle (by omega) (by omega), if_neg (by omega), rd_nI _ (by omega) (by omega), hpm, Option.bind_some, misTaken (by omega), Option.bind_some, if10, if_neg (fun q => hb (hbm.mp q)), nI_1]
  · rintro s1 ⟨x2, y2, z2⟩ ⟨ch', f', rfl, e1, e2, hf', q1, q2, q3, q4, q5⟩
    dsimp only at e1 e2 q4
    subst e1; subst e2
    dsimp only
    unfold f_X0_assignGroups_B28 f_X7_countIn_B67
    rw [pC_s, q3 0 (by decide), hS.1, ifle (by omega) (by omega), if_pos (by omega), rd_157, Option.bind_some, q4 1 (by decide), hm1, hG.1, ifle (by omega) (by omega), if_pos (by omega)]
    exact ⟨rfl, rfl⟩
theorem EM.kp {n : Nat} {fr : Nat → Nat} {mm mm' : MM} (h : EM n fr mm) (e7 : mm' 7 = mm 7) (e8 : mm' 8 = mm 8) : EM n fr mm' := by
  intro j hj
  have := h j hj
  unfold stN at this ⊢
  rw [e7, e8]
  exact this
/-- the counting of all kinds, behind a choice -/
theorem count_all {cm : CM} {C o n : Nat} {m : Nat → Int32} {rk : List Nat} {fr fg : Nat → Nat} {ch mm : MM} (hoC : o ≠ C) (hG : GR (cm o 1) m n) (hV : okV m n) (hR : okR rk n) (hC : CH (cm o 1) m n rk fr fg ch mm) (hE : EM n fr mm) :
    ∃ ch' mm' a, f_X0_assignGroups (pC cm C ch) C o = some (pC cm C ch') ∧ itr (fun s : Int32 × MM => f_X7_chooseAll_B6 s.1 s.2) 2000 (0, mm) = some (a, mm') ∧ CH (cm o 1) m n rk fr fg ch' mm' ∧ EM n fr mm' ∧ KM mm mm' ∧ keeps [12, 18, 20] ch ch' := by
  have h156 := hG.2.2.2.2
  by_cases e1 : m 156 = 1
  · refine ⟨ch, mm, 0, ?_, ?_, hC, hE, KM.rf _, keeps.rf _ _⟩
    · unfold f_X0_assignGroups
      rw [og_156, pC_n _ _ hoC, h156, Option.bind_some, if_pos e1]
    · rw [itr_succ]
      dsimp only
      unfold f_X7_chooseAll_B6
      rw [if_neg (by decide), rd_156, Option.bind_some, hC.1.2.1, if_pos e1]
  · have key := itr2_for (st1 := fun s : Int32 × CM => f_X0_assignGroups_B15 C o s.1 s.2) (st2 := fun s : Int32 × MM => f_X7_chooseAll_B6 s.1 s.2)
      (fun k s1 s2 => ∃ ch', s1 = (nI k, pC cm C ch') ∧ s2.1 = nI k ∧ CH (cm o 1) m n rk fr fg ch' s2.2 ∧ EM n fr s2.2 ∧ KM mm s2.2 ∧ keeps [12, 18, 20] ch ch') 4 (0, pC cm C ch) (0, mm) (by omega) ⟨ch, rfl, rfl, hC, hE, KM.rf _, keeps.rf _ _⟩ ?_ ?_
    · obtain ⟨⟨x1, y1⟩, ⟨x2, y2⟩, i1, i2, ch', e1, -, q1, q2, q3, q4⟩ := key
      obtain ⟨rfl, rfl⟩ := Prod.mk.inj e1
      refine ⟨ch', y2, x2, ?_, i2, q1, q2, q3, q4⟩
      unfold f_X0_assignGroups
      rw [og_156, pC_n _ _ hoC, h156, Option.bind_some, if_neg ‹_›, i1, Option.bind_some]
    · rintro k s1 ⟨x2, y2⟩ hk ⟨ch', rfl, e2, q1, q2, q3, q4⟩
      dsimp only at e2 q1 q2 q3
      subst e2
      dsimp only
      obtain ⟨ch2, m2, a1, a2, a3, a4, a5⟩ := count_in (cm := cm) (C := C) hoC hG hV hR q1 hk
      refine ⟨(nI (k + 1), pC cm C ch2), (nI (k + 1), m2), a1, ?_, ch2, rfl, rfl, a3, q2.kp (a4 7 (by decide)) (a4 8 (by decide)), q3.tr ⟨a4 1 (by decide), a4 2 (by decide), a4 18 (by decide), congrFun (a4 0 (by decide)) 2, congrFun (a4 0 (by decide)) 3⟩, q4.tr a5 (by decide)⟩
      unfold f_X7_chooseAll_B6
      rw [show (4 : Int32) = nI 4 from rfl, ifle (by omega) (by omega), if_neg (by omega), rd_156, Option.bind_some, q1.1.2.1, if_neg e1, a2, Option.bind_some, nI_1]
    · rintro s1 ⟨x2, y2⟩ ⟨ch', rfl, e2, q1, q2, q3⟩
      dsimp only at e2
      subst e2
      dsimp only
      unfold f_X0_assignGroups_B15 f_X7_chooseAll_B6
      rw [if_pos (by decide), if_pos (by decide)]
      exact ⟨rfl, rfl⟩
