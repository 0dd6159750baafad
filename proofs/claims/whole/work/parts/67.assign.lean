/-! PURE PART: counting to groups: what a cut says -/
def fdec (f : Nat → Nat) (g : Nat) : Nat → Nat := fun i => if i = g then f g - 1 else f i
theorem rsS_dec {f : Nat → Nat} {s g : Nat} (h : 0 < f g) : ∀ G, g < G → rsS (fdec f g) s G + (if bt (nI s) g = true then 1 else 0) = rsS f s G
  | 0, hg => by omega
  | G + 1, hg => by
    rw [rsS_s, rsS_s]
    by_cases e : g = G
    · subst e
      rw [rsS_congr (f := fdec f g) (f' := f) g (fun i hi => by unfold fdec; rw [if_neg (by omega)])]
      have : fdec f g g = f g - 1 := by unfold fdec; rw [if_pos rfl]
      rw [this]
      split <;> omega
    · have ih := rsS_dec (s := s) h G (by omega)
      have : fdec f g G = f G := by unfold fdec; rw [if_neg (by omega)]
      rw [this]
      omega
theorem out_0 : ∀ x, x < 16 → ∀ s, s < 16 → ∀ g, g < 4 → (!(bt (nI x) g && !bt (nI s) g) || outB (nI x) s) = true := by decide +kernel
theorem out_y {x s g : Nat} (hx : x < 16) (hs : s < 16) (hg : g < 4) (h1 : bt (nI x) g = true) (h2 : ¬ bt (nI s) g = true) : outB (nI x) s = true := by
  have := out_0 x hx s hs g hg
  have h2' : bt (nI s) g = false := by simpa using h2
  rw [h1, h2'] at this
  simpa using this
theorem in_0 : ∀ x, x < 16 → ∀ s, s < 16 → (!(((!bt (nI x) 0) || bt (nI s) 0) && ((!bt (nI x) 1) || bt (nI s) 1) && ((!bt (nI x) 2) || bt (nI s) 2) && ((!bt (nI x) 3) || bt (nI s) 3)) || !outB (nI x) s) = true := by decide +kernel
theorem in_y {x s : Nat} (hx : x < 16) (hs : s < 16) (h : ∀ g, g < 4 → bt (nI x) g = true → bt (nI s) g = true) : outB (nI x) s = false := by
  have h1 := in_0 x hx s hs
  have e : ∀ g, g < 4 → ((!bt (nI x) g) || bt (nI s) g) = true := by
    intro g hg
    have := h g hg
    cases hb : bt (nI x) g
    · rfl
    · rw [this hb]; rfl
  rw [e 0 (by omega), e 1 (by omega), e 2 (by omega), e 3 (by omega)] at h1
  simpa using h1
theorem single : ∀ g, g < 4 → 2 ^ g < 16 ∧ bt (nI (2 ^ g)) g = true := by decide +kernel
theorem rs_single {f : Nat → Nat} : ∀ g, g < 4 → rsS f (2 ^ g) 4 = f g
  | 0, _ => by rw [rsS_s, rsS_s, rsS_s, rsS_s]; simp [rsS, show bt (nI 1) 0 = true by decide, show bt (nI 1) 1 = false by decide, show bt (nI 1) 2 = false by decide, show bt (nI 1) 3 = false by decide]
  | 1, _ => by rw [rsS_s, rsS_s, rsS_s, rsS_s]; simp [rsS, show bt (nI 2) 0 = false by decide, show bt (nI 2) 1 = true by decide, show bt (nI 2) 2 = false by decide, show bt (nI 2) 3 = false by decide]
  | 2, _ => by rw [rsS_s, rsS_s, rsS_s, rsS_s]; simp [rsS, show bt (nI 4) 0 = false by decide, show bt (nI 4) 1 = false by decide, show bt (nI 4) 2 = true by decide, show bt (nI 4) 3 = false by decide]
  | 3, _ => by rw [rsS_s, rsS_s, rsS_s, rsS_s]; simp [rsS, show bt (nI 8) 0 = false by decide, show bt (nI 8) 1 = false by decide, show bt (nI 8) 2 = false by decide, show bt (nI 8) 3 = true by decide]
  | n + 4, h => by omega
theorem fil_at {gs : Nat → Int32} {f : Nat → Nat} {T : List Nat} (h : fil gs (fun s => rsS f s 4) T < 16) : ∃ s, s < 16 ∧ fil gs (fun s => rsS f s 4) T = rsS f s 4 + cO gs T s := mnN_at h
theorem fil_le {gs : Nat → Int32} {f : Nat → Nat} (T : List Nat) {s : Nat} (h : s < 16) : fil gs (fun s => rsS f s 4) T ≤ rsS f s 4 + cO gs T s := mnN_le (fun s => rsS f s 4 + cO gs T s) h
/-- with one counted to g, at least one less can be counted -/
theorem fil_M2 {gs : Nat → Int32} {f : Nat → Nat} {p g : Nat} {T : List Nat} (hp : ∃ x, x < 16 ∧ gs p = nI x) (hT : T.length ≤ 15) (hg : g < 4) (hb : bt (gs p) g = true) (hf : 0 < f g) : fil gs (fun s => rsS (fdec f g) s 4) T + 1 ≤ fil gs (fun s => rsS f s 4) (p :: T) := by
  obtain ⟨x, hx, e⟩ := hp
  by_cases h : fil gs (fun s => rsS f s 4) (p :: T) < 16
  · obtain ⟨s, hs, e1⟩ := fil_at h
    have m := fil_le (gs := gs) (f := fdec f g) T hs
    have d := rsS_dec (s := s) hf 4 hg
    rw [cO_cons] at e1
    by_cases h2 : bt (nI s) g = true
    · rw [if_pos h2] at d
      omega
    · rw [e] at hb e1
      rw [if_pos (out_y hx hs hg hb h2)] at e1
      rw [if_neg h2] at d
      omega
  · have := fil_len (gs := gs) (f := fdec f g) T
    have := fil16 gs (fun s => rsS f s 4) (p :: T)
    omega
theorem fil_up {gs : Nat → Int32} {f : Nat → Nat} (p : Nat) (T : List Nat) : fil gs (fun s => rsS f s 4) T ≤ fil gs (fun s => rsS f s 4) (p :: T) := by
  refine mnN_ge (fil16 _ _ _) (fun s hs => ?_)
  have := fil_le (gs := gs) (f := f) T hs
  show _ ≤ rsS f s 4 + cO gs (p :: T) s
  rw [cO_cons]
  omega
/-- minimal cuts are closed under union -/
theorem min_or {gs : Nat → Int32} {f : Nat → Nat} {T : List Nat} {a b : Nat} (hT : okG gs T) (ha : a < 16) (hb : b < 16) (ea : rsS f a 4 + cO gs T a = fil gs (fun s => rsS f s 4) T) (eb : rsS f b 4 + cO gs T b = fil gs (fun s => rsS f s 4) T) : rsS f (a ||| b) 4 + cO gs T (a ||| b) = fil gs (fun s => rsS f s 4) T := by
  obtain ⟨u1, u2⟩ := set_or a ha b hb
  have m1 := rsS_mod f ha hb 4 (Nat.le_refl _)
  have m2 := cO_sub ha hb T hT
  have m3 := fil_le (gs := gs) (f := f) T u1
  have m4 := fil_le (gs := gs) (f := f) T u2
  omega
/-- if no group of p serves, p does not count at all -/
theorem fil_M3 {gs : Nat → Int32} {f : Nat → Nat} {p : Nat} {T : List Nat} (hp : ∃ x, x < 16 ∧ gs p = nI x) (hT : T.length ≤ 15) (hok : okG gs T) (h : ∀ g, g < 4 → bt (gs p) g = true → 0 < f g → fil gs (fun s => rsS (fdec f g) s 4) T + 1 < fil gs (fun s => rsS f s 4) (p :: T)) : fil gs (fun s => rsS f s 4) T = fil gs (fun s => rsS f s 4) (p :: T) := by
  obtain ⟨x, hx, e⟩ := hp
  have hup := fil_up (gs := gs) (f := f) p T
  have hlen := fil_len (gs := gs) (f := f) T
  by_cases hq : fil gs (fun s => rsS f s 4) T = fil gs (fun s => rsS f s 4) (p :: T)
  · exact hq
  exfalso
  obtain ⟨s0, hs0, e0⟩ := fil_at (gs := gs) (f := f) (T := T) (by omega)
  have key : ∀ G, G ≤ 4 → ∃ s, s < 16 ∧ rsS f s 4 + cO gs T s = fil gs (fun s => rsS f s 4) T ∧ ∀ g, g < G → bt (nI x) g = true → bt (nI s) g = true := by
    intro G
    induction G with
    | zero => exact fun _ => ⟨s0, hs0, e0.symm, fun g hg => by omega⟩
    | succ G ih =>
      intro hG
      obtain ⟨s, hs, es, hin⟩ := ih (by omega)
      by_cases hb : bt (nI x) G = true
      · by_cases hf : 0 < f G
        · have h1 := h G (by omega) (by rw [e]; exact hb) hf
          obtain ⟨t, ht, et⟩ := fil_at (gs := gs) (f := fdec f G) (T := T) (by
            have := fil16 gs (fun s => rsS f s 4) (p :: T)
            omega)
          have d := rsS_dec (s := t) hf 4 (by omega)
          have m := fil_le (gs := gs) (f := f) T ht
          have hp1 : fil gs (fun s => rsS f s 4) (p :: T) ≤ fil gs (fun s => rsS f s 4) T + 1 := by
            have m5 := fil_le (gs := gs) (f := f) (p :: T) hs0
            rw [cO_cons] at m5
            have : (if outB (gs p) s0 = true then 1 else 0) ≤ 1 := by split <;> omega
            omega
          have hbt : bt (nI t) G = true := by
            by_cases hbt : bt (nI t) G = true
            · exact hbt
            · rw [if_neg hbt] at d; omega
          rw [if_pos hbt] at d
          have hmin : rsS f t 4 + cO gs T t = fil gs (fun s => rsS f s 4) T := by omega
          refine ⟨s ||| t, (set_or s hs t ht).1, min_or hok hs ht es hmin, fun g hg hbg => ?_⟩
          rw [(set_bt s hs t ht g (by omega)).1]
          by_cases eg : g = G
          · subst eg; rw [hbt]; simp
          · rw [hin g (by omega) hbg]; rfl
        · obtain ⟨w1, w2⟩ := single G (by omega)
          have r0 := rs_single (f := f) G (by omega)
          have m1 := rsS_mod f w1 hs 4 (Nat.le_refl _)
          have m2 := cO_mono w1 hs T hok
          have u1 := (set_or (2 ^ G) w1 s hs).1
          have m3 := fil_le (gs := gs) (f := f) T u1
          refine ⟨2 ^ G ||| s, u1, by omega, fun g hg hbg => ?_⟩
          rw [(set_bt _ w1 s hs g (by omega)).1]
          by_cases eg : g = G
          · subst eg; rw [w2]; rfl
          · rw [hin g (by omega) hbg]; simp
      · refine ⟨s, hs, es, fun g hg hbg => ?_⟩
        by_cases eg : g = G
        · subst eg; exact absurd hbg hb
        · exact hin g (by omega) hbg
  obtain ⟨s, hs, es, hin⟩ := key 4 (Nat.le_refl _)
  have m := fil_le (gs := gs) (f := f) (p :: T) hs
  rw [cO_cons, e, in_y hx hs hin] at m
  simp at m
  omega
/-! assign and firstGroup -/
def TLc (gs : Nat → Int32) (f : Nat → Nat) (T : List Nat) (ch : MM) : Prop := (∀ s, s < 16 → ch 18 s = nI (rsS f s 4 + cO gs T s)) ∧ ∀ g, g < 4 → ch 20 g = nI (f g)
def TLm (gs : Nat → Int32) (f : Nat → Nat) (T : List Nat) (mm : MM) : Prop := (∀ s, s < 16 → mm 13 s = nI (rsS f s 4)) ∧ (∀ s, s < 16 → mm 14 s = nI (cO gs T s)) ∧ ∀ g, g < 4 → mm 16 g = nI (f g)
def f5 (f : Nat → Nat) : Prop := ∀ g, g < 4 → f g ≤ 5
theorem TL_bd {gs : Nat → Int32} {f : Nat → Nat} {T : List Nat} (hf : f5 f) (hT : T.length ≤ 16) (s : Nat) : rsS f s 4 + cO gs T s < 2 ^ 30 := by
  have h1 : rsS f s 4 ≤ 5 * 4 := rsS_le' 4 hf
  have := cO_le gs T s
  omega
theorem TLc_fill {cm : CM} {C : Nat} {gs : Nat → Int32} {f : Nat → Nat} {T : List Nat} {ch : MM} (hf : f5 f) (hT : T.length ≤ 16) (h : TLc gs f T ch) : f_X5_fill (pC cm C ch) C = some (nI (fil gs (fun s => rsS f s 4) T)) := by
  rw [ofill, mnf_nI (f := fun s => rsS f s 4 + cO gs T s) 16 (fun s hs => ⟨h.1 s hs, TL_bd hf hT s⟩)]
  rfl
theorem TLm_cut {gs : Nat → Int32} {f : Nat → Nat} {T : List Nat} {mm : MM} (hf : f5 f) (hT : T.length ≤ 16) (h13 : ∀ s, s < 16 → mm 13 s = nI (rsS f s 4)) (h14 : ∀ s, s < 16 → mm 14 s = nI (cO gs T s)) : f_X7_leastCut mm (-9) = some (nI (fil gs (fun s => rsS f s 4) T)) := by
  rw [mcut9, mnf_nI (f := fun s => rsS f s 4 + cO gs T s) 16 (fun s hs => ⟨by rw [h13 s hs, h14 s hs, nI_add], TL_bd hf hT s⟩)]
  rfl
theorem f5_dec {f : Nat → Nat} {g : Nat} (h : f5 f) (hg : g < 4) : f5 (fdec f g) := by
  intro i hi
  have := h i hi
  have := h g hg
  unfold fdec
  split <;> omega
theorem subif1 (a : Nat) (b : Bool) : nI (a + if b = true then 1 else 0) + (if b = true then (-1 : Int32) else 0) = nI a := addifm a b
theorem fdec_s (f : Nat → Nat) (g : Nat) : fdec f g g = f g - 1 := by unfold fdec; rw [if_pos rfl]
theorem fdec_n (f : Nat → Nat) {g i : Nat} (h : i ≠ g) : fdec f g i = f i := by unfold fdec; rw [if_neg h]
theorem assign_2 {cm : CM} {C p : Nat} {gs : Nat → Int32} {f : Nat → Nat} {T : List Nat} {ch mm : MM} (hp : p < 16) (hx : ∃ x, x < 16 ∧ gs p = nI x) (hT : T.length ≤ 15) (hok : okG gs T) (hf : f5 f) (hc : TLc gs f (p :: T) ch) (hg : mm 1 (8 * p + 3) = gs p) (h14 : ∀ s, s < 16 → mm 14 s = nI (cO gs T s)) (h16 : ∀ g, g < 4 → mm 16 g = nI (f g)) :
    ∃ x ch' mm' f', f_X5_assign (pC cm C ch) C (gs p) = some (x, pC cm C ch') ∧ f_X7_firstGroup mm (nI p) (nI (fil gs (fun s => rsS f s 4) (p :: T)) - 1) = some (x, mm') ∧ keeps [18, 20] ch ch' ∧ keeps [13, 16] mm mm' ∧ TLc gs f' T ch' ∧ TLm gs f' T mm' ∧ f5 f' ∧ (x = -9 ∧ fil gs (fun s => rsS f' s 4) T = fil gs (fun s => rsS f s 4) (p :: T) ∨ ∃ g, g < 4 ∧ x = nI g ∧ fil gs (fun s => rsS f' s 4) T + 1 = fil gs (fun s => rsS f s 4) (p :: T)) := by
  obtain ⟨ch1, a1, a2, a3⟩ := oadd (cm := cm) (C := C) (ch := ch) (gs p) (-1)
  have hc1 : TLc gs f T ch1 := by
    refine ⟨fun s hs => ?_, fun g hg => by rw [a2 20 (by decide)]; exact hc.2 g hg⟩
    rw [a3 s hs, hc.1 s hs, cO_cons, ← Nat.add_assoc, addifm]
  have x1 := TLc_fill (cm := cm) (C := C) hf (by rw [List.length_cons]; omega) hc
  have h16' := fil16 gs (fun s => rsS f s 4) (p :: T)
  generalize hst : fil gs (fun s => rsS f s 4) (p :: T) = st at *
  have key := itr2 (st1 := fun s : Int32 × CM => f_X5_assign_B15 C (gs p) (nI st) s.1 s.2) (st2 := fun s : Int32 × MM => f_X7_firstGroup_B2 (nI p) (nI st - 1) s.1 s.2)
    (fun g s1 s2 => ∃ ch', s1 = (nI g, pC cm C ch') ∧ keeps [18, 20] ch ch' ∧ TLc gs f T ch' ∧ s2.1 = nI g ∧ keeps [13, 16] mm s2.2 ∧ (∀ g, g < 4 → s2.2 16 g = nI (f g)) ∧ ∀ i, i < g → bt (gs p) i = true → 0 < f i → fil gs (fun s => rsS (fdec f i) s 4) T + 1 < st)
    (fun o1 o2 => (∃ ch' m' a b, o1 = .inl (a, pC cm C ch') ∧ o2 = .inl (b, m') ∧ keeps [18, 20] ch ch' ∧ TLc gs f T ch' ∧ keeps [13, 16] mm m' ∧ (∀ g, g < 4 → m' 16 g = nI (f g)) ∧ fil gs (fun s => rsS f s 4) T = st) ∨ ∃ g ch' m', g < 4 ∧ o1 = .inr (nI g, pC cm C ch') ∧ o2 = .inr (nI g, m') ∧ keeps [18, 20] ch ch' ∧ keeps [13, 16] mm m' ∧ TLc gs (fdec f g) T ch' ∧ TLm gs (fdec f g) T m' ∧ fil gs (fun s => rsS (fdec f g) s 4) T + 1 = st) 4 ?_ ?_ 2000 0 (0, pC cm C ch1) (0, mm) (by omega) (by omega) ⟨ch1, rfl, a2.wd (by decide), hc1, rfl, keeps.rf _ _, h16, fun i hi => by omega⟩
  · obtain ⟨o1, o2, i1, i2, hQ⟩ := key
    rcases hQ with ⟨ch', m', a, b, rfl, rfl, q1, q2, q3, q4, q5⟩ | ⟨g, ch', m', hg4, rfl, rfl, q1, q2, q3, q4, q5⟩
    · obtain ⟨m3, s1, s2, s3⟩ := msum (mm := m') (f := f) q4
      refine ⟨-9, ch', m3, f, ?_, ?_, q1, q3.tr s2 (by decide), q2, ⟨s3, fun s hs => ?_, fun g hg => ?_⟩, hf, Or.inl ⟨rfl, q5⟩⟩
      · unfold f_X5_assign
        rw [x1, Option.bind_some, a1, Option.bind_some, i1, Option.bind_some]
      · unfold f_X7_firstGroup
        rw [i2, Option.bind_some]
        dsimp only
        rw [s1, Option.bind_some]
      · rw [s2 14 (by decide), q3 14 (by decide)]; exact h14 s hs
      · rw [s2 16 (by decide)]; exact q4 g hg
    · refine ⟨nI g, ch', m', fdec f g, ?_, ?_, q1, q2, q3, q4, f5_dec hf hg4, Or.inr ⟨g, hg4, rfl, q5⟩⟩
      · unfold f_X5_assign
        rw [x1, Option.bind_some, a1, Option.bind_some, i1, Option.bind_some]
      · unfold f_X7_firstGroup
        rw [i2, Option.bind_some]
  · rintro g s1 ⟨y, m'⟩ hg4 ⟨ch', rfl, k1, k2, e1, k3, k4, k5⟩
    dsimp only at e1 k3 k4
    subst e1
    dsimp only
    have hm3 : f_X7_of m' (nI p) 3 = some (gs p) := by rw [mo_3 hp, k3 1 (by decide), hg]
    have skip : (bt (gs p) g = true → 0 < f g → fil gs (fun s => rsS (fdec f g) s 4) T + 1 < st) → ∀ i, i < g + 1 → bt (gs p) i = true → 0 < f i → fil gs (fun s => rsS (fdec f i) s 4) T + 1 < st := by
      intro h i hi h1 h2
      by_cases e : i = g
      · subst e; exact h h1 h2
      · exact k5 i (by omega) h1 h2
    by_cases hb : bt (gs p) g = true
    · by_cases hz : f g = 0
      · refine Or.inl ⟨(nI (g + 1), pC cm C ch'), (nI (g + 1), m'), ?_, ?_, ch', rfl, k1, k2, rfl, k3, k4, skip (fun _ h => by omega)⟩
        · unfold f_X5_assign_B15
          rw [show (4 : Int32) = nI 4 from rfl, ifle (by omega) (by omega), if_neg (by omega), if_pos (by rw [bt_test (by omega)]; exact hb), rowget hg4 (by omega), pC_s, k2.2 g hg4, hz, Option.bind_some, if_pos (by decide), nI_1]
        · unfold f_X7_firstGroup_B2
          rw [show (4 : Int32) = nI 4 from rfl, ifle (by omega) (by omega), if_neg (by omega), hm3, Option.bind_some, isin, Option.bind_some, if_pos (by rw [bt_test (by omega)]; exact hb), rd_nI _ hg4 (by omega), k4 g hg4, hz, Option.bind_some, if_pos (by decide), nI_1]
      · have hpos : 0 < f g := by omega
        have hfg5 := hf g hg4
        have hM2 := fil_M2 (gs := gs) (f := f) (p := p) (T := T) hx hT hg4 hb hpos
        rw [hst] at hM2
        obtain ⟨ch2, c1, c2, c3, c4⟩ := ochange (cm := cm) (C := C) (ch := ch') hg4 (-1)
        have hc2 : TLc gs (fdec f g) T ch2 := by
          refine ⟨fun s hs => ?_, fun i hi => ?_⟩
          · have d := rsS_dec (s := s) hpos 4 hg4
            rw [c3 s hs, k2.1 s hs, ← d, show rsS (fdec f g) s 4 + (if bt (nI s) g = true then 1 else 0) + cO gs T s = rsS (fdec f g) s 4 + cO gs T s + (if bt (nI s) g = true then 1 else 0) by omega, addifm]
          · rw [c4]
            by_cases e : i = g
            · subst e
              rw [upd_s, k2.2 i hi, fdec_s]
              obtain ⟨y, hy⟩ : ∃ y, f i = y + 1 := ⟨f i - 1, by omega⟩
              rw [hy, pk_m1]; rfl
            · rw [upd_n _ _ e, k2.2 i hi, fdec_n _ e]
        have xf := TLc_fill (cm := cm) (C := C) (f5_dec hf hg4) (by omega) hc2
        -- the reference
        have h16w : ∀ i, i < 4 → (u2 m' 16 (upd (m' 16) g (nI (f g) - 1))) 16 i = nI (fdec f g i) := by
          intro i hi
          rw [u2_s]
          by_cases e : i = g
          · subst e
            obtain ⟨y, hy⟩ : ∃ y, f i = y + 1 := ⟨f i - 1, by omega⟩
            rw [upd_s, fdec_s, hy, nI_pred]; rfl
          · rw [upd_n _ _ e, fdec_n _ e, k4 i hi]
        obtain ⟨m2, s1, s2, s3⟩ := msum (mm := u2 m' 16 (upd (m' 16) g (nI (f g) - 1))) (f := fdec f g) h16w
        have k3' : keeps [13, 16] mm m2 := (k3.up (by decide)).tr s2 (by decide)
        have h14' : ∀ s, s < 16 → m2 14 s = nI (cO gs T s) := fun s hs => by rw [k3' 14 (by decide)]; exact h14 s hs
        have xm := TLm_cut (gs := gs) (mm := m2) (f5_dec hf hg4) (by omega) s3 h14'
        obtain ⟨st', hst'⟩ : ∃ y, st = y + 1 := ⟨st - 1, by omega⟩
        have hfle := fil16 gs (fun s => rsS (fdec f g) s 4) T
        by_cases ht : fil gs (fun s => rsS (fdec f g) s 4) T + 1 = st
        · refine Or.inr ⟨.inr (nI g, pC cm C ch2), .inr (nI g, m2), ?_, ?_, Or.inr ⟨g, ch2, m2, hg4, rfl, rfl, k1.tr c2 (by decide), k3', hc2, ⟨s3, h14', fun i hi => by rw [s2 16 (by decide)]; exact h16w i hi⟩, ht⟩⟩
          · unfold f_X5_assign_B15
            rw [show (4 : Int32) = nI 4 from rfl, ifle (by omega) (by omega), if_neg (by omega), if_pos (by rw [bt_test (by omega)]; exact hb), rowget hg4 (by omega), pC_s, k2.2 g hg4, Option.bind_some, if_neg (nI_nle (by omega) (by omega)), c1, Option.bind_some, xf, Option.bind_some, hst', nI_pred, ifeq (by omega) (by omega), if_pos (by omega)]
          · unfold f_X7_firstGroup_B2
            rw [show (4 : Int32) = nI 4 from rfl, ifle (by omega) (by omega), if_neg (by omega), hm3, Option.bind_some, isin, Option.bind_some, if_pos (by rw [bt_test (by omega)]; exact hb), rd_nI _ hg4 (by omega), k4 g hg4, Option.bind_some, if_neg (nI_nle (by omega) (by omega)), Option.bind_some, wr_nI _ _ hg4 (by omega), Option.bind_some, s1, Option.bind_some, xm, Option.bind_some, hst', nI_pred, iflt (by omega) (by omega), if_neg (by omega)]
        · obtain ⟨ch3, d1, d2, d3, d4⟩ := ochange (cm := cm) (C := C) (ch := ch2) hg4 1
          refine Or.inl ⟨(nI (g + 1), pC cm C ch3), (nI (g + 1), u2 m2 16 (upd (m2 16) g (nI (f g)))), ?_, ?_, ch3, rfl, (k1.tr c2 (by decide)).tr d2 (by decide), ⟨fun s hs => ?_, fun i hi => ?_⟩, rfl, k3'.up (by decide), fun i hi => ?_, skip (fun _ _ => by omega)⟩
          · unfold f_X5_assign_B15
            rw [show (4 : Int32) = nI 4 from rfl, ifle (by omega) (by omega), if_neg (by omega), if_pos (by rw [bt_test (by omega)]; exact hb), rowget hg4 (by omega), pC_s, k2.2 g hg4, Option.bind_some, if_neg (nI_nle (by omega) (by omega)), c1, Option.bind_some, xf, Option.bind_some, hst', nI_pred, ifeq (by omega) (by omega), if_neg (by omega), d1, Option.bind_some, nI_1]
          · unfold f_X7_firstGroup_B2
            rw [show (4 : Int32) = nI 4 from rfl, ifle (by omega) (by omega), if_neg (by omega), hm3, Option.bind_some, isin, Option.bind_some, if_pos (by rw [bt_test (by omega)]; exact hb), rd_nI _ hg4 (by omega), k4 g hg4, Option.bind_some, if_neg (nI_nle (by omega) (by omega)), Option.bind_some, wr_nI _ _ hg4 (by omega), Option.bind_some, s1, Option.bind_some, xm, Option.bind_some, hst', nI_pred, iflt (by omega) (by omega), if_pos (by omega), rd_nI _ hg4 (by omega), s2 16 (by decide), h16w g hg4, fdec_s, Option.bind_some, nI_1, wr_nI _ _ hg4 (by omega), Option.bind_some, nI_1, show f g - 1 + 1 = f g by omega]
          · have d := rsS_dec (s := s) hpos 4 hg4
            rw [d3 s hs, hc2.1 s hs, addif1, ← d, show rsS (fdec f g) s 4 + cO gs T s + (if bt (nI s) g = true then 1 else 0) = rsS (fdec f g) s 4 + (if bt (nI s) g = true then 1 else 0) + cO gs T s by omega]
          · rw [d4]
            by_cases e : i = g
            · subst e
              rw [upd_s, hc2.2 i hi, fdec_s, nI_1, show f i - 1 + 1 = f i by omega]
            · rw [upd_n _ _ e, hc2.2 i hi, fdec_n _ e]
          · dsimp only
            rw [u2_s]
            by_cases e : i = g
            · subst e; rw [upd_s]
            · rw [upd_n _ _ e, s2 16 (by decide), h16w i hi, fdec_n _ e]
    · refine Or.inl ⟨(nI (g + 1), pC cm C ch'), (nI (g + 1), m'), ?_, ?_, ch', rfl, k1, k2, rfl, k3, k4, skip (fun h _ => absurd h hb)⟩
      · unfold f_X5_assign_B15
        rw [show (4 : Int32) = nI 4 from rfl, ifle (by omega) (by omega), if_neg (by omega), if_neg (by rw [bt_test (by omega)]; exact hb), nI_1]
      · unfold f_X7_firstGroup_B2
        rw [show (4 : Int32) = nI 4 from rfl, ifle (by omega) (by omega), if_neg (by omega), hm3, Option.bind_some, isin, Option.bind_some, if_neg (by rw [bt_test (by omega)]; exact hb), nI_1]
  · rintro s1 ⟨y, m'⟩ ⟨ch', rfl, k1, k2, e1, k3, k4, k5⟩
    dsimp only at e1 k3 k4
    subst e1
    dsimp only
    refine ⟨.inl (nI 4, pC cm C ch'), .inl (nI 4, m'), ?_, ?_, Or.inl ⟨ch', m', nI 4, nI 4, rfl, rfl, k1, k2, k3, k4, ?_⟩⟩
    · unfold f_X5_assign_B15
      rw [if_pos (by decide)]
    · unfold f_X7_firstGroup_B2
      rw [if_pos (by decide)]
    · rw [← hst]
      refine fil_M3 hx hT hok (fun g h1 h2 h3 => ?_)
      rw [hst]
      exact k5 g h1 h2 h3
