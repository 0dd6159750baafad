/-! PURE PART: claim -/
def sz (s : Nat) : Nat := cntP (bt (nI s)) 16
theorem sz_le : ∀ s, s < 16 → sz s ≤ 4 := by decide +kernel
theorem set_hi : ∀ s, s < 16 → ∀ i, i < 32 → 16 ≤ i → bt (nI s) i = false := by decide +kernel
theorem set_orI : ∀ x, x < 16 → ∀ s, s < 16 → nI x ||| nI s = nI (x ||| s) := by decide +kernel
theorem osz {s : Nat} (h : s < 16) : f_J6_bitCount_0f7a4 (nI s) = some (nI (sz s)) := bitc (fun i h1 h2 => set_hi s h i h2 h1)
theorem msz (s : Nat) : f_X7_sizeOf (nI s) = some (nI (sz s)) := msize _
/-- the row with more groups of p -/
def mg (m : Nat → Int32) (p s : Nat) : Nat → Int32 := upd m (8 * p + 3) (m (8 * p + 3) ||| nI s)
def HG (m : Nat → Int32) (p s : Nat) : Prop := nI s &&& m (8 * p + 3) = 0 ∧ bt (mem (mg m p s)) p = true
theorem VM_mg {m : Nat → Int32} {n p s : Nat} (V : VM m n) (hp : p < n) (hs : s < 16) : VM (mg m p s) n := by
  have hn := V.2.1
  obtain ⟨-, -, -, ⟨x, hx, ex⟩, -⟩ := V.2.2.1 p hp
  refine V.pp (p := p) (by omega) (fun i hi hne => upd_n _ _ (by omega)) (fun hk => ?_)
  have ho := (set_or x (by omega) s hs).1
  refine VP_u (f := 3) (V.2.2.1 p hk) ?_ ?_ ?_ ?_ ?_ ?_ ?_ <;> first | exact fun _ => ⟨x ||| s, by omega, by rw [ex, set_orI x (by omega) s hs]⟩ | (intro q; exact absurd q (by decide))
theorem lay_mg {c m : Nat → Int32} {p : Nat} (l : lay c m) (hp : p < 16) (s : Nat) : lay (upd c (48 + p) (m (8 * p + 3) ||| nI s)) (mg m p s) := lay_up (f := 3) l hp (by omega) _
def isG (m : Nat → Int32) (p : Nat) (t : Int32) : Prop := (t = -9 ∧ ∀ s, s < 16 → ¬ HG m p s) ∨ ∃ s, s < 16 ∧ t = nI s ∧ HG m p s ∧ ∀ u, u < 16 → HG m p u → sz s < sz u ∨ (sz s = sz u ∧ s ≤ u)
theorem isG.u {m : Nat → Int32} {p : Nat} {t t' : Int32} (h : isG m p t) (h' : isG m p t') : t = t' := by
  rcases h with ⟨e, h⟩ | ⟨s, hs, e, h1, h2⟩
  · rcases h' with ⟨e', h'⟩ | ⟨s', hs', e', h1', h2'⟩
    · rw [e, e']
    · exact absurd h1' (h s' hs')
  · rcases h' with ⟨e', h'⟩ | ⟨s', hs', e', h1', h2'⟩
    · exact absurd h1 (h' s hs)
    · have a := h2 s' hs' h1'
      have b := h2' s hs h1
      have : s = s' := by omega
      rw [e, e', this]
def GC (cm : CM) (p : Nat) (c : CM) : Prop := (∀ o, o ≠ 28 → o ≠ 29 → c o = cm o) ∧ ∃ μ, c 28 1 = upd (va_cpy (cm 1 1) (cm 28 1) 0 0 159) (48 + p) μ
theorem oset_k {cm : CM} {m : Nat → Int32} {n p k : Nat} {c0 : CM} (l : lay (cm 1 1) m) (V : VM m n) (hp : p < n) (hk : k < 5) (h0 : GC cm p c0) :
    ∃ o, itr (fun s : Int32 × CM => f_X6_leastGroups_B32 (nI p) (m (8 * p + 3)) (nI k) s.1 s.2) 2000 (0, c0) = some o ∧ (match o with | .inl a => GC cm p a.2 ∧ ∀ s, s < 16 → sz s = k → ¬ HG m p s | .inr r => GC cm p r.2 ∧ ∃ s, s < 16 ∧ r.1 = nI s ∧ sz s = k ∧ HG m p s ∧ ∀ u, u < s → sz u = k → ¬ HG m p u) := by
  have hn := V.2.1
  have hp16 : p < 16 := by omega
  refine itr_inv (step := fun s : Int32 × CM => f_X6_leastGroups_B32 (nI p) (m (8 * p + 3)) (nI k) s.1 s.2)
    (fun s t => t.1 = nI s ∧ GC cm p t.2 ∧ ∀ u, u < s → sz u = k → ¬ HG m p u) _ 16 ?_ ?_ 2000 0 (0, c0) (Nat.zero_le _) (by omega) ⟨rfl, h0, fun u hu => by omega⟩
  · rintro s ⟨x, c⟩ hs ⟨e, ⟨g1, μ, g2⟩, k1⟩
    dsimp only at e g1 g2 k1
    subst e
    dsimp only
    have hsz := sz_le s hs
    have ls : lay (upd (va_cpy (cm 1 1) (cm 28 1) 0 0 159) (48 + p) (m (8 * p + 3) ||| nI s)) (mg m p s) := lay_mg (lay_cpy _ l) hp16 s
    have Vs := VM_mg V hp hs
    have more : ∀ c' : CM, GC cm p c' → ¬ (sz s = k ∧ HG m p s) → (nI (s + 1), c').1 = nI (s + 1) ∧ GC cm p (nI (s + 1), c').2 ∧ ∀ u, u < s + 1 → sz u = k → ¬ HG m p u := fun c' hc hno => ⟨rfl, hc, fun u hu hz hh => by
      by_cases e : u = s
      · subst e; exact hno ⟨hz, hh⟩
      · exact k1 u (by omega) hz hh⟩
    unfold f_X6_leastGroups_B32
    rw [if_neg (show ¬ (16 : Int32) ≤ nI s from nI_ge (b := 16) hs (by omega)), osz hs, Option.bind_some, ifeq (by omega) (by omega), nI_1]
    by_cases hz : sz s = k
    · rw [if_pos hz]
      by_cases hd : nI s &&& m (8 * p + 3) = 0
      · obtain ⟨ch, t1, t2, -⟩ := tri (cm := u3 c 28 1 (upd (va_cpy (cm 1 1) (cm 28 1) 0 0 159) (48 + p) (m (8 * p + 3) ||| nI s))) (C := 29) (o := 28) (n := n) (m := mg m p s) (by decide) (by rw [u3_s]; exact OF_of ls Vs)
        have hg : GC cm p (pC (u3 c 28 1 (upd (va_cpy (cm 1 1) (cm 28 1) 0 0 159) (48 + p) (m (8 * p + 3) ||| nI s))) 29 ch) := ⟨fun o h1 h2 => by rw [pC_n _ _ h2, u3_o h1]; exact g1 o h1 h2, _, by rw [pC_n _ _ (by decide), u3_s]⟩
        rw [if_pos hd, os_48 hp16, g2, upd_upd, Option.bind_some, t1, Option.bind_some, ohas (by omega), t2, Option.bind_some, if10]
        by_cases hb : bt (mem (mg m p s)) p = true
        · rw [if_pos hb]
          exact Or.inr ⟨_, rfl, hg, s, hs, rfl, hz, ⟨hd, hb⟩, k1⟩
        · rw [if_neg hb]
          exact Or.inl ⟨_, rfl, more _ hg (fun q => hb q.2.2)⟩
      · rw [if_neg hd]
        exact Or.inl ⟨_, rfl, more _ ⟨g1, μ, g2⟩ (fun q => hd q.2.1)⟩
    · rw [if_neg hz]
      exact Or.inl ⟨_, rfl, more _ ⟨g1, μ, g2⟩ (fun q => hz q.1)⟩
  · rintro ⟨x, c⟩ ⟨e, g, k1⟩
    dsimp only at e g k1
    subst e
    dsimp only
    unfold f_X6_leastGroups_B32
    rw [if_pos (by decide)]
    exact ⟨_, rfl, g, fun s hs => k1 s hs⟩
theorem oleastG {cm : CM} {m : Nat → Int32} {n p : Nat} (l : lay (cm 1 1) m) (V : VM m n) (hp : p < n) : ∃ t cm', f_X6_leastGroups cm (nI p) = some (t, cm') ∧ isG m p t ∧ ∀ o, o ≠ 28 → o ≠ 29 → cm' o = cm o := by
  have hn := V.2.1
  have hp16 : p < 16 := by omega
  have key := itr_inv (step := fun s : Int32 × CM => f_X6_leastGroups_B24 (nI p) (m (8 * p + 3)) s.1 s.2)
    (fun k t => t.1 = nI k ∧ GC cm p t.2 ∧ ∀ u, u < 16 → sz u < k → ¬ HG m p u)
    (fun o => match o with | .inl a => GC cm p a.2 ∧ isG m p (-9) | .inr r => GC cm p r.2 ∧ isG m p r.1) 5 ?_ ?_ 2000 0 (0, u3 cm 28 1 (va_cpy (cm 1 1) (cm 28 1) 0 0 159)) (Nat.zero_le _) (by omega) ⟨rfl, ⟨fun o h1 _ => u3_o h1, va_cpy (cm 1 1) (cm 28 1) 0 0 159 (48 + p), by dsimp only; rw [u3_s, upd_self]⟩, fun u _ hu => by omega⟩
  · obtain ⟨o, i1, i2⟩ := key
    unfold f_X6_leastGroups f_X3_copyFrom
    rw [Option.bind_some, og_48 hp16, u3_o (by decide), ly_48 l hp16, Option.bind_some, i1, Option.bind_some]
    cases o with
    | inl a => exact ⟨_, _, rfl, i2.2, i2.1.1⟩
    | inr r => exact ⟨_, _, rfl, i2.2, i2.1.1⟩
  · rintro k ⟨x, c⟩ hk ⟨e, g, k1⟩
    dsimp only at e g k1
    subst e
    dsimp only
    obtain ⟨o, j1, j2⟩ := oset_k (k := k) l V hp hk g
    unfold f_X6_leastGroups_B24
    rw [show (4 : Int32) = nI 4 from rfl, iflt (by omega) (by omega), if_neg (by omega), j1, Option.bind_some, nI_1]
    cases o with
    | inl a =>
      refine Or.inl ⟨_, rfl, rfl, j2.1, fun u hu hz => ?_⟩
      by_cases e : sz u = k
      · exact j2.2 u hu e
      · exact k1 u hu (by omega)
    | inr r =>
      obtain ⟨g', s, hs, es, hz, hh, hl⟩ := j2
      refine Or.inr ⟨_, rfl, g', Or.inr ⟨s, hs, es, hh, fun u hu hu2 => ?_⟩⟩
      by_cases e1 : sz u < k
      · exact absurd hu2 (k1 u hu e1)
      · by_cases e2 : sz u = k
        · by_cases e3 : u < s
          · exact absurd hu2 (hl u e3 e2)
          · omega
        · omega
  · rintro ⟨x, c⟩ ⟨e, g, k1⟩
    dsimp only at e g k1
    subst e
    dsimp only
    unfold f_X6_leastGroups_B24
    rw [if_pos (by decide)]
    exact ⟨_, rfl, g, Or.inl ⟨rfl, fun s hs => k1 s hs (by have := sz_le s hs; omega)⟩⟩
theorem mclaim {c : Nat → Int32} {mm : MM} {n p : Nat} (l : lay c (mm 1)) (V : VM (mm 1) n) (hp : p < n) : ∃ t x mm1 mm', itr (fun s : Int32 × Int32 × MM => f_X7_claim_B34 (nI p) (mm 1 (8 * p + 3)) s.1 s.2.1 s.2.2) 2000 ((-9), 0, mm) = some (t, x, mm1) ∧ f_X7_become mm1 (nI p) 3 (mm 1 (8 * p + 3)) = some mm' ∧ isG (mm 1) p t ∧ mm' 1 = mm 1 ∧ K4 mm mm' := by
  have hn := V.2.1
  have hp16 : p < 16 := by omega
  have key := itr_for (step := fun s : Int32 × Int32 × MM => f_X7_claim_B34 (nI p) (mm 1 (8 * p + 3)) s.1 s.2.1 s.2.2)
    (fun s st => st.2.1 = nI s ∧ (∃ μ, st.2.2 1 = upd (mm 1) (8 * p + 3) μ) ∧ K4 mm st.2.2 ∧ ((st.1 = -9 ∧ ∀ u, u < s → ¬ HG (mm 1) p u) ∨ ∃ t, t < s ∧ st.1 = nI t ∧ HG (mm 1) p t ∧ ∀ u, u < s → HG (mm 1) p u → sz t < sz u ∨ (sz t = sz u ∧ t ≤ u))) 16 (-9, 0, mm) (by omega) ⟨rfl, ⟨_, (upd_self _ _).symm⟩, K4.rf _, Or.inl ⟨rfl, fun u hu => by omega⟩⟩ ?_ ?_
  · obtain ⟨⟨t, x, d⟩, i1, -, ⟨μ, i2⟩, i3, i4⟩ := key
    dsimp only at i2 i3 i4
    refine ⟨t, x, d, _, i1, mb_3 hp16, ?_, ?_, i3.tr (K4.u _ _)⟩
    · rcases i4 with i4 | ⟨s, hs, i4⟩
      · exact Or.inl i4
      · exact Or.inr ⟨s, hs, i4⟩
    · rw [u2_s, i2, upd_upd, upd_self]
  · rintro s ⟨t, x, d⟩ hs ⟨e, ⟨μ, k1⟩, k2, k3⟩
    dsimp only at e k1 k2 k3
    subst e
    dsimp only
    have same : ∀ d' : MM, (∃ μ, d' 1 = upd (mm 1) (8 * p + 3) μ) → K4 mm d' → (HG (mm 1) p s → ∃ v, v < s ∧ t = nI v ∧ sz v ≤ sz s) → (t, nI (s + 1), d').2.1 = nI (s + 1) ∧ (∃ μ, (t, nI (s + 1), d').2.2 1 = upd (mm 1) (8 * p + 3) μ) ∧ K4 mm (t, nI (s + 1), d').2.2 ∧ (((t, nI (s + 1), d').1 = -9 ∧ ∀ u, u < s + 1 → ¬ HG (mm 1) p u) ∨ ∃ v, v < s + 1 ∧ (t, nI (s + 1), d').1 = nI v ∧ HG (mm 1) p v ∧ ∀ u, u < s + 1 → HG (mm 1) p u → sz v < sz u ∨ (sz v = sz u ∧ v ≤ u)) := by
      intro d' h1 h2 h3
      refine ⟨rfl, h1, h2, ?_⟩
      dsimp only
      rcases k3 with ⟨et, k3⟩ | ⟨v, hv, et, k3, k4⟩
      · refine Or.inl ⟨et, fun u hu hh => ?_⟩
        by_cases e : u = s
        · subst e
          obtain ⟨v, hv, ev, -⟩ := h3 hh
          rw [ev] at et
          exact m9_ne (by omega) et
        · exact k3 u (by omega) hh
      · refine Or.inr ⟨v, by omega, et, k3, fun u hu hh => ?_⟩
        by_cases e : u = s
        · subst e
          obtain ⟨w, hw, ew, hz⟩ := h3 hh
          have : v = w := (nI_eq (by omega) (by omega)).mp (et.symm.trans ew)
          subst this
          omega
        · exact k4 u (by omega) hh
    have hk64 : ∃ b : Bool, ((if t = (-9) then some 1 else (f_X7_sizeOf (nI s)).bind fun x49 => (f_X7_sizeOf t).bind fun x53 => if x53 ≤ x49 then some 0 else some 1) : Option Int32) = some (if b = true then 1 else 0) ∧ (b = false → ∃ v, v < s ∧ t = nI v ∧ sz v ≤ sz s) ∧ (b = true → ∀ u, u < s → HG (mm 1) p u → sz s < sz u) := by
      rcases k3 with ⟨et, k3⟩ | ⟨v, hv, et, k3, k4⟩
      · exact ⟨true, by rw [if_pos et]; rfl, fun q => absurd q (by decide), fun _ u hu hh => absurd hh (k3 u hu)⟩
      · have b1 := sz_le v (by omega)
        have b2 := sz_le s hs
        rw [if_neg (by rw [et]; exact m9_ne (by omega)), msz, Option.bind_some, et, msz, Option.bind_some]
        by_cases hz : sz v ≤ sz s
        · exact ⟨false, by rw [if_pos (nI_le hz (show sz s < 2 ^ 31 by omega))]; rfl, fun _ => ⟨v, hv, rfl, hz⟩, fun q => absurd q (by decide)⟩
        · refine ⟨true, by rw [if_neg (nI_ge (show sz s < sz v by omega) (by omega))]; rfl, fun q => absurd q (by decide), fun _ u hu hh => ?_⟩
          have := k4 u hu hh
          omega
    obtain ⟨b, e64, hf, ht⟩ := hk64
    unfold f_X7_claim_B34
    rw [if_neg (show ¬ (16 : Int32) ≤ nI s from nI_ge (b := 16) hs (by omega)), e64, Option.bind_some, nI_1]
    by_cases hd : nI s &&& mm 1 (8 * p + 3) = 0
    · rw [if_pos hd]
      cases b with
      | false =>
        rw [if_pos (by decide)]
        exact ⟨_, rfl, same d ⟨μ, k1⟩ k2 (fun _ => hf rfl)⟩
      | true =>
        rw [if_neg (by decide), mb_3 hp16, k1, upd_upd, Option.bind_some]
        obtain ⟨mm1, b1, b2⟩ := mis (p := p) (mm0 := u2 d 1 (mg (mm 1) p s)) (OF_of (lay_mg l hp16 s) (VM_mg V hp hs)) hp (u2_s _ _ _)
        have e1 : mm1 1 = mg (mm 1) p s := b2.1.trans (u2_s _ _ _)
        have hk := (k2.tr (K4.u _ _)).tr b2.k
        rw [show upd (mm 1) (8 * p + 3) (mm 1 (8 * p + 3) ||| nI s) = mg (mm 1) p s from rfl, b1, Option.bind_some]
        dsimp only
        rw [if10]
        by_cases hb : bt (mem (mg (mm 1) p s)) p = true
        · rw [if_pos hb]
          refine ⟨_, rfl, rfl, ⟨_, e1⟩, hk, Or.inr ⟨s, by omega, rfl, ⟨hd, hb⟩, fun u hu hh => ?_⟩⟩
          by_cases e : u = s
          · subst e; omega
          · exact Or.inl (ht rfl u (by omega) hh)
        · rw [if_neg hb]
          exact ⟨_, rfl, same mm1 ⟨_, e1⟩ hk (fun q => absurd q.2 hb)⟩
    · rw [if_neg hd]
      exact ⟨_, rfl, same d ⟨μ, k1⟩ k2 (fun q => absurd q.1 hd)⟩
  · rintro ⟨t, x, d⟩ ⟨e, -⟩
    dsimp only at e
    subst e
    dsimp only
    unfold f_X7_claim_B34
    rw [if_pos (by decide)]
theorem op_claim {cm : CM} {mm : MM} (h : INV cm mm) (a1 : Int32) : EQ2 (f_X6_claim cm a1) (f_X7_claim mm a1) := by
  have h' := h
  obtain ⟨n, l, V, R, -⟩ := h
  have hn := V.2.1
  unfold f_X6_claim f_X7_claim
  rcases prsn l V a1 with ⟨p, hpn, rfl, q1, q2⟩ | ⟨-, q1, q2⟩
  rotate_left
  · rw [q1, q2, Option.bind_some, Option.bind_some, i00, i00]
    exact EQ2.k h' _
  have hp : p < 16 := by omega
  rw [q1, q2, Option.bind_some, Option.bind_some, i10, i10, oactive hp, Option.bind_some, mactive hp, Option.bind_some, ly_64 l hp]
  by_cases ha : 2 < mm 1 (8 * p + 4)
  · rw [if_pos ha, i00, i00]
    exact EQ2.k h' _
  obtain ⟨t, cm', a1, a2, a3⟩ := oleastG l V hpn
  obtain ⟨t', x, mm1, mm', b0, b1, b2, b3, b4⟩ := mclaim l V hpn
  rw [if_neg ha, i10, i10, a1, Option.bind_some, mo_3 hp, Option.bind_some, b0, Option.bind_some]
  dsimp only
  rw [b1, Option.bind_some, a2.u b2]
  exact ⟨_, _, _, rfl, rfl, h'.k4 (fun o ho => a3 o (by omega) (by omega)) b3 b4⟩
