/-! PURE PART: nearest -/
def clc (g : Nat → Int32) (j : Nat) : Nat := cntP (fun o => decide (g o < g j ∨ (g o = g j ∧ o < j))) 16
theorem oplace {cm : CM} {k : Nat} (hk : k ≤ 15) : ∃ t, f_X6_placeOfGap cm (nI k) = some t ∧ ((t = -9 ∧ ∀ j, j < 16 → ¬ cm 31 1 j = 1000 → clc (cm 31 1) j ≠ k) ∨ ∃ j, j < 16 ∧ t = nI j ∧ ¬ cm 31 1 j = 1000 ∧ clc (cm 31 1) j = k) := by
  have key := itr_inv (step := fun s : Int32 => f_X6_placeOfGap_B2 cm (nI k) s)
    (fun j s => s = nI j ∧ ∀ i, i < j → ¬ cm 31 1 i = 1000 → clc (cm 31 1) i ≠ k)
    (fun o => match o with | .inl _ => ∀ i, i < 16 → ¬ cm 31 1 i = 1000 → clc (cm 31 1) i ≠ k | .inr r => ∃ j, j < 16 ∧ r = nI j ∧ ¬ cm 31 1 j = 1000 ∧ clc (cm 31 1) j = k) 16 ?_ ?_ 2000 0 0 (Nat.zero_le _) (by omega) ⟨rfl, fun i hi => by omega⟩
  · obtain ⟨o, i1, i2⟩ := key
    unfold f_X6_placeOfGap
    rw [i1, Option.bind_some]
    cases o with
    | inl a => exact ⟨_, rfl, Or.inl ⟨rfl, i2⟩⟩
    | inr r => exact ⟨_, rfl, Or.inr i2⟩
  · rintro j s hj ⟨rfl, h1⟩
    have hin : itr (fun s : Int32 × Int32 => f_X6_placeOfGap_B23 cm (nI j) (cm 31 1 j) s.1 s.2) 2000 (0, 0) = some (nI (clc (cm 31 1) j), nI 16) := by
      unfold clc
      refine itr_cnt (fun o => decide (cm 31 1 o < cm 31 1 j ∨ (cm 31 1 o = cm 31 1 j ∧ o < j))) 16 (by omega) ?_ ?_
      · intro o c ho _
        dsimp only
        unfold f_X6_placeOfGap_B23
        rw [if_neg (show ¬ (16 : Int32) ≤ nI o from nI_ge (b := 16) ho (by omega)), rowget ho (by omega), Option.bind_some, nI_1, nI_1]
        by_cases e1 : cm 31 1 o < cm 31 1 j
        · rw [if_pos e1, if_pos (decide_eq_true (Or.inl e1))]
        · rw [if_neg e1]
          by_cases e2 : cm 31 1 o = cm 31 1 j
          · rw [if_pos e2, ifle (by omega) (by omega)]
            by_cases e3 : j ≤ o
            · rw [if_pos e3, if_neg (by rw [decide_eq_true_eq]; exact fun q => q.elim e1 (fun q => by omega))]; rfl
            · rw [if_neg e3, if_pos (decide_eq_true (Or.inr ⟨e2, by omega⟩))]
          · rw [if_neg e2, if_neg (by rw [decide_eq_true_eq]; exact fun q => q.elim e1 (fun q => e2 q.1))]; rfl
      · intro c
        dsimp only
        unfold f_X6_placeOfGap_B23
        rw [if_pos (by decide)]
    have hle : clc (cm 31 1) j ≤ 16 := cntP_le _ _
    unfold f_X6_placeOfGap_B2
    rw [if_neg (show ¬ (16 : Int32) ≤ nI j from nI_ge (b := 16) hj (by omega)), rowget hj (by omega), Option.bind_some, hin, Option.bind_some]
    dsimp only
    rw [nI_1]
    have more : ¬ (¬ cm 31 1 j = 1000 ∧ clc (cm 31 1) j = k) → nI (j + 1) = nI (j + 1) ∧ ∀ i, i < j + 1 → ¬ cm 31 1 i = 1000 → clc (cm 31 1) i ≠ k := fun hno => ⟨rfl, fun i hi h2 h3 => by
      by_cases e : i = j
      · subst e; exact hno ⟨h2, h3⟩
      · exact h1 i (by omega) h2 h3⟩
    by_cases e1 : cm 31 1 j = 1000
    · rw [if_pos e1]
      exact Or.inl ⟨_, rfl, more (fun q => q.1 e1)⟩
    · rw [if_neg e1, ifeq (by omega) (by omega)]
      by_cases e2 : clc (cm 31 1) j = k
      · rw [if_pos e2]
        exact Or.inr ⟨_, rfl, j, hj, rfl, e1, e2⟩
      · rw [if_neg e2]
        exact Or.inl ⟨_, rfl, more (fun q => e2 q.2)⟩
  · rintro s ⟨rfl, h1⟩
    unfold f_X6_placeOfGap_B2
    rw [if_pos (by decide)]
    exact ⟨_, rfl, h1⟩
def crm (m mis : Nat → Int32) (S : Nat → Bool) (n p : Nat) : Nat := cntP (fun q => S q && decide (mis q < mis p ∨ (mis q = mis p ∧ kyM m q < kyM m p))) n
theorem mplace {S : Int32} {mm : MM} {n k : Nat} (V : VM (mm 1) n) (hk : k ≤ 15) : ∃ t o, itr (fun s : Int32 => f_X7_nearest_B20 (nI k) (S, mm) s) 2000 0 = some o ∧ (match o with | .inr r => some r | .inl _ => some ((-9), mm)) = some (t, mm) ∧ ((t = -9 ∧ ∀ p, p < n → bt S p = true → crm (mm 1) (mm 18) (bt S) n p ≠ k) ∨ ∃ p, p < n ∧ t = nI p ∧ bt S p = true ∧ crm (mm 1) (mm 18) (bt S) n p = k) := by
  have hn := V.2.1
  have key := itr_inv (step := fun s : Int32 => f_X7_nearest_B20 (nI k) (S, mm) s)
    (fun p s => s = nI p ∧ ∀ i, i < p → bt S i = true → crm (mm 1) (mm 18) (bt S) n i ≠ k)
    (fun o => match o with | .inl _ => ∀ i, i < n → bt S i = true → crm (mm 1) (mm 18) (bt S) n i ≠ k | .inr r => ∃ p, p < n ∧ r = (nI p, mm) ∧ bt S p = true ∧ crm (mm 1) (mm 18) (bt S) n p = k) n ?_ ?_ 2000 0 0 (Nat.zero_le _) (by omega) ⟨rfl, fun i hi => by omega⟩
  · obtain ⟨o, i1, i2⟩ := key
    cases o with
    | inl a => exact ⟨_, _, i1, rfl, Or.inl ⟨rfl, i2⟩⟩
    | inr r =>
      obtain ⟨p, hp, rfl, h2, h3⟩ := i2
      exact ⟨_, _, i1, rfl, Or.inr ⟨p, hp, rfl, h2, h3⟩⟩
  · rintro p s hp ⟨rfl, h1⟩
    have hin : itr (fun s : Int32 × Int32 => f_X7_nearest_B38 (S, mm) (nI p) s.1 s.2) 2000 (0, 0) = some (nI (crm (mm 1) (mm 18) (bt S) n p), nI n) := by
      unfold crm
      refine itr_cnt (fun q => bt S q && decide (mm 18 q < mm 18 p ∨ (mm 18 q = mm 18 p ∧ kyM (mm 1) q < kyM (mm 1) p))) n (by omega) ?_ ?_
      · intro q c hq _
        have ek : ((if mm 18 q < mm 18 p then some 1 else if mm 18 q = mm 18 p then (f_X7_isAhead mm (nI q) (nI p)).bind fun x87 => if x87 = 0 then some 0 else some 1 else some 0) : Option Int32) = some (if mm 18 q < mm 18 p ∨ (mm 18 q = mm 18 p ∧ kyM (mm 1) q < kyM (mm 1) p) then 1 else 0) := by
          by_cases e1 : mm 18 q < mm 18 p
          · rw [if_pos e1, if_pos (Or.inl e1)]
          · rw [if_neg e1]
            by_cases e2 : mm 18 q = mm 18 p
            · rw [if_pos e2, mahead V.mt hq hp hn, Option.bind_some, if10]
              by_cases e3 : kyM (mm 1) q < kyM (mm 1) p
              · rw [if_pos e3, if_pos (Or.inr ⟨e2, e3⟩)]
              · rw [if_neg e3, if_neg (fun q => q.elim e1 (fun q => e3 q.2))]
            · rw [if_neg e2, if_neg (fun q => q.elim e1 (fun q => e2 q.1))]
        dsimp only
        unfold f_X7_nearest_B38
        dsimp only
        rw [rd_157, V.1, Option.bind_some, ifle (by omega) (by omega), if_neg (by omega), rd_nI _ (by omega) (by omega), Option.bind_some, rd_nI _ (by omega) (by omega), Option.bind_some, Option.bind_some, Option.bind_some, ek, Option.bind_some, isin, Option.bind_some, bit1 (by omega), if11, if10, nI_1, nI_1, Int32.add_zero]
        by_cases b1 : bt S q = true
        · rw [if_pos b1]
          by_cases b2 : mm 18 q < mm 18 p ∨ (mm 18 q = mm 18 p ∧ kyM (mm 1) q < kyM (mm 1) p)
          · rw [if_pos b2, if_pos (by rw [b1, decide_eq_true b2]; rfl)]
          · rw [if_neg b2, if_neg (by rw [b1, decide_eq_false b2]; decide)]; rfl
        · rw [if_neg b1, if_neg (by simp [b1])]; rfl
      · intro c
        dsimp only
        unfold f_X7_nearest_B38
        dsimp only
        rw [rd_157, V.1, Option.bind_some, ifle (by omega) (by omega), if_pos (by omega)]
    have hle : crm (mm 1) (mm 18) (bt S) n p ≤ n := cntP_le _ _
    unfold f_X7_nearest_B20
    dsimp only
    rw [rd_157, V.1, Option.bind_some, ifle (by omega) (by omega), if_neg (by omega), hin, Option.bind_some]
    dsimp only
    rw [isin, Option.bind_some, bit1 (by omega), if11, nI_1, ifeq (by omega) (by omega)]
    have more : ¬ (bt S p = true ∧ crm (mm 1) (mm 18) (bt S) n p = k) → nI (p + 1) = nI (p + 1) ∧ ∀ i, i < p + 1 → bt S i = true → crm (mm 1) (mm 18) (bt S) n i ≠ k := fun hno => ⟨rfl, fun i hi h2 h3 => by
      by_cases e : i = p
      · subst e; exact hno ⟨h2, h3⟩
      · exact h1 i (by omega) h2 h3⟩
    by_cases e1 : bt S p = true
    · rw [if_pos e1]
      by_cases e2 : crm (mm 1) (mm 18) (bt S) n p = k
      · rw [if_pos e2]
        exact Or.inr ⟨_, rfl, p, hp, rfl, e1, e2⟩
      · rw [if_neg e2]
        exact Or.inl ⟨_, rfl, more (fun q => e2 q.2)⟩
    · rw [if_neg e1]
      exact Or.inl ⟨_, rfl, more (fun q => e1 q.1)⟩
  · rintro s ⟨rfl, h1⟩
    unfold f_X7_nearest_B20
    dsimp only
    rw [rd_157, V.1, Option.bind_some, ifle (by omega) (by omega), if_pos (by omega)]
    exact ⟨_, rfl, h1⟩
/-- who is asked for: takes part, has no seat, and a mark would help -/
def inS (m T : Nat → Int32) (M : Int32) (p : Nat) : Bool := decide (¬ 2 < m (8 * p + 4)) && (!bt M p && decide (¬ T p = -9))
def gpT (m T : Nat → Int32) (p : Nat) : Int32 := T p - m (8 * p)
theorem inS_t {m T : Nat → Int32} {M : Int32} {p : Nat} : inS m T M p = true ↔ ¬ 2 < m (8 * p + 4) ∧ bt M p = false ∧ ¬ T p = -9 := by
  unfold inS
  rw [Bool.and_eq_true, Bool.and_eq_true, decide_eq_true_eq, decide_eq_true_eq, Bool.not_eq_true']
def gvc (m T : Nat → Int32) (M : Int32) (rk : List Nat) (r j : Nat) : Int32 := match rk[j]? with | none => 1000 | some p => if j < r ∧ inS m T M p = true then gpT m T p else 1000
theorem onear {cm : CM} {m T : Nat → Int32} {n : Nat} (l : lay (cm 1 1) m) (V : VM m n) (hT : ∀ p, p < n → isT m p (T p)) (h2 : ∀ r p, (srt (kyM m) n)[r]? = some p → cm 27 2 r &&& 15 = nI p) :
    ∃ x c, itr (fun s : Int32 × CM => f_X6_nearest_B29 s.1 s.2) 2000 (0, u3 cm 31 1 (mixf 16 (fun _ => 1000) (cm 31 1))) = some (x, c) ∧ (∀ o, o ≠ 28 → o ≠ 29 → o ≠ 31 → c o = cm o) ∧ ∀ j, j < 16 → c 31 1 j = gvc m T (cm 27 0 11) (srt (kyM m) n) n j := by
  have hn := V.2.1
  have hR := okR_srt (kyM m) n
  have key := itr_for (step := fun s : Int32 × CM => f_X6_nearest_B29 s.1 s.2) (fun r s => s.1 = nI r ∧ (∀ o, o ≠ 28 → o ≠ 29 → o ≠ 31 → s.2 o = cm o) ∧ ∀ j, j < 16 → s.2 31 1 j = gvc m T (cm 27 0 11) (srt (kyM m) n) r j) n (0, u3 cm 31 1 (mixf 16 (fun _ => 1000) (cm 31 1))) (by omega) ⟨rfl, fun o _ _ h => u3_o h, fun j hj => ?_⟩ ?_ ?_
  · obtain ⟨⟨x, c⟩, i1, -, i2, i3⟩ := key
    exact ⟨x, c, i1, i2, i3⟩
  · dsimp only
    rw [u3_s, mix_lt _ _ hj]
    unfold gvc
    cases (srt (kyM m) n)[j]? with
    | none => rfl
    | some p => dsimp only; rw [if_neg (fun q => by omega)]
  · rintro r ⟨x, c⟩ hr ⟨e, k1, k2⟩
    dsimp only at e k1 k2
    subst e
    dsimp only
    obtain ⟨p, hp⟩ : ∃ p, (srt (kyM m) n)[r]? = some p := ⟨(srt (kyM m) n)[r]'(by rw [hR.1]; exact hr), List.getElem?_eq_getElem _⟩
    have hpn : p < n := (hR.2.2 p).mp (List.mem_of_getElem? hp)
    have hp16 : p < 16 := by omega
    have e1 : c 1 = cm 1 := k1 1 (by decide) (by decide) (by decide)
    have e27 : c 27 = cm 27 := k1 27 (by decide) (by decide) (by decide)
    have lc : lay (c 1 1) m := by rw [e1]; exact l
    have stay : inS m T (cm 27 0 11) p = false → ∀ j, j < 16 → c 31 1 j = gvc m T (cm 27 0 11) (srt (kyM m) n) (r + 1) j := by
      intro hno j hj
      rw [k2 j hj]
      unfold gvc
      by_cases ej : j = r
      · subst ej
        rw [hp]
        dsimp only
        rw [hno, if_neg (fun q => absurd q.2 (by decide)), if_neg (fun q => absurd q.2 (by decide))]
      · cases (srt (kyM m) n)[j]? with
        | none => rfl
        | some q =>
          dsimp only
          exact if_iff ⟨fun h => ⟨by omega, h.2⟩, fun h => ⟨by omega, h.2⟩⟩
    unfold f_X6_nearest_B29
    rw [opeople, ly_158 lc, V.1, Option.bind_some, ifle (by omega) (by omega), if_neg (by omega), opers' (by omega) (by rw [e27]; exact h2 r p hp), Option.bind_some, oactive hp16, Option.bind_some, ly_64 lc hp16, ohas' (by omega), e27, Option.bind_some, if10, nI_1]
    by_cases ha : 2 < m (8 * p + 4)
    · rw [if_pos ha, i00]
      refine ⟨_, rfl, rfl, k1, stay ?_⟩
      cases hb : inS m T (cm 27 0 11) p
      · rfl
      · exact absurd ha (inS_t.mp hb).1
    · rw [if_neg ha, i10]
      by_cases hb : bt (cm 27 0 11) p = true
      · rw [if_pos hb]
        refine ⟨_, rfl, rfl, k1, stay ?_⟩
        cases hc : inS m T (cm 27 0 11) p
        · rfl
        · rw [(inS_t.mp hc).2.1] at hb
          exact absurd hb (by decide)
      · rw [if_neg hb]
        obtain ⟨t, c', a1, a2, a3⟩ := oleast lc V hpn
        have et : t = T p := a2.u (hT p hpn)
        subst et
        have hb' : bt (cm 27 0 11) p = false := by simpa using hb
        have e1' : c' 1 = c 1 := a3 1 (by decide) (by decide)
        have hval : ((if T p = (-9) then some 1000 else (f_X3_get c' 1 0 (nI p)).bind fun x103 => some (T p - x103)) : Option Int32) = some (if inS m T (cm 27 0 11) p = true then gpT m T p else 1000) := by
          by_cases h9 : T p = -9
          · rw [if_pos h9, if_neg (fun q => (inS_t.mp q).2.2 h9)]
          · rw [if_neg h9, og_0 hp16, e1', ly_0 lc hp16, Option.bind_some, if_pos (inS_t.mpr ⟨ha, hb', h9⟩)]
            rfl
        rw [a1, Option.bind_some]
        dsimp only
        rw [hval, Option.bind_some, rowset (by omega) (by omega), Option.bind_some]
        refine ⟨_, rfl, rfl, fun o h3 h4 h5 => ?_, fun j hj => ?_⟩
        · dsimp only
          rw [u3_o h5, a3 o h3 h4]; exact k1 o h3 h4 h5
        · dsimp only
          rw [u3_s, a3 31 (by decide) (by decide)]
          by_cases ej : j = r
          · subst ej
            rw [upd_s]
            unfold gvc
            rw [hp]
            dsimp only
            exact if_iff ⟨fun h => ⟨by omega, h⟩, fun h => h.2⟩
          · rw [upd_n _ _ ej, k2 j hj]
            unfold gvc
            cases (srt (kyM m) n)[j]? with
            | none => rfl
            | some q =>
              dsimp only
              exact if_iff ⟨fun h => ⟨by omega, h.2⟩, fun h => ⟨by omega, h.2⟩⟩
  · rintro ⟨x, c⟩ ⟨e, k1, k2⟩
    dsimp only at e k1 k2
    subst e
    have e1 : c 1 = cm 1 := k1 1 (by decide) (by decide) (by decide)
    have lc : lay (c 1 1) m := by rw [e1]; exact l
    dsimp only
    unfold f_X6_nearest_B29
    rw [opeople, ly_158 lc, V.1, Option.bind_some, ifle (by omega) (by omega), if_pos (by omega)]
def K3 (a b : MM) : Prop := b 1 = a 1 ∧ b 2 = a 2 ∧ b 0 2 = a 0 2 ∧ b 0 3 = a 0 3
theorem mmiss {c : Nat → Int32} {mm : MM} {T : Nat → Int32} {n : Nat} (M : Int32) (l : lay c (mm 1)) (V : VM (mm 1) n) (hT : ∀ p, p < n → isT (mm 1) p (T p)) :
    ∃ S x m1, itr (fun s : Int32 × Int32 × MM => f_X7_whoMisses_B13 M s.1 s.2.1 s.2.2) 2000 (0, 0, mm) = some (S, x, m1) ∧ K3 mm m1 ∧ ∀ q, q < n → bt S q = inS (mm 1) T M q ∧ (inS (mm 1) T M q = true → m1 18 q = gpT (mm 1) T q) := by
  have hn := V.2.1
  have key := itr_for (step := fun s : Int32 × Int32 × MM => f_X7_whoMisses_B13 M s.1 s.2.1 s.2.2) (fun p s => s.2.1 = nI p ∧ K3 mm s.2.2 ∧ (∀ i, p ≤ i → i < 32 → bt s.1 i = false) ∧ ∀ q, q < p → bt s.1 q = inS (mm 1) T M q ∧ (inS (mm 1) T M q = true → s.2.2 18 q = gpT (mm 1) T q)) n (0, 0, mm) (by omega) ⟨rfl, ⟨rfl, rfl, rfl, rfl⟩, fun i _ _ => b_0 i, fun q hq => by omega⟩ ?_ ?_
  · obtain ⟨⟨S, x, m1⟩, i1, -, i2, -, i3⟩ := key
    exact ⟨S, x, m1, i1, i2, i3⟩
  · rintro p ⟨S, x, d⟩ hp ⟨e, k1, k2, k3⟩
    dsimp only at e k1 k2 k3
    subst e
    dsimp only
    have hp16 : p < 16 := by omega
    have hT' : ∃ d', ((if (if 2 < d 1 (8 * p + 4) then (0 : Int32) else 1) = 0 then some (d, (-9)) else (f_X7_isIn M (nI p)).bind fun x35 => if x35 = 0 then (f_X7_thresholdOf d (nI p)).bind fun r43 => some (r43.2, r43.1) else some (d, (-9))) : Option (MM × Int32)) = some (d', if inS (mm 1) T M p = true then T p else -9) ∧ K3 d d' ∧ d' 18 = d 18 := by
      rw [k1.1]
      by_cases ha : 2 < mm 1 (8 * p + 4)
      · rw [if_pos ha, i00, if_neg (fun q => (inS_t.mp q).1 ha)]
        exact ⟨d, rfl, ⟨rfl, rfl, rfl, rfl⟩, rfl⟩
      · rw [if_neg ha, i10, isin, Option.bind_some, bit1 (by omega), if10]
        by_cases hb : bt M p = true
        · rw [if_pos hb, if_neg (fun q => by rw [(inS_t.mp q).2.1] at hb; exact absurd hb (by decide))]
          exact ⟨d, rfl, ⟨rfl, rfl, rfl, rfl⟩, rfl⟩
        · have hb' : bt M p = false := by simpa using hb
          obtain ⟨t, d', b1, b2, b3, b4⟩ := mthr (c := c) (mm := d) (n := n) (p := p) (by rw [k1.1]; exact l) (by rw [k1.1]; exact V) hp
          rw [k1.1] at b2
          have et : t = T p := b2.u (hT p hp)
          subst et
          rw [if_neg hb, b1, Option.bind_some]
          refine ⟨d', ?_, ⟨b3, b4.1, b4.2.2.1, b4.2.2.2⟩, b4.2.1⟩
          by_cases h9 : T p = -9
          · rw [if_neg (fun q => (inS_t.mp q).2.2 h9), h9]
          · rw [if_pos (inS_t.mpr ⟨ha, hb', h9⟩)]
    obtain ⟨d', f1, f2, f3⟩ := hT'
    have e1 : d' 1 = mm 1 := f2.1.trans k1.1
    unfold f_X7_whoMisses_B13
    rw [rd_157, k1.1, V.1, Option.bind_some, ifle (by omega) (by omega), if_neg (by omega), mactive hp16, Option.bind_some, f1, Option.bind_some]
    dsimp only
    rw [mo_0 hp16, e1, Option.bind_some, wr_nI _ _ (by omega) (by omega), Option.bind_some, f3, nI_1, or0]
    have hK : K3 mm (u2 d' 18 (upd (d 18) p ((if inS (mm 1) T M p = true then T p else -9) - mm 1 (8 * p)))) := ⟨by rw [u2_n _ _ (by decide)]; exact e1, by rw [u2_n _ _ (by decide), f2.2.1]; exact k1.2.1, by rw [u2_n _ _ (by decide), f2.2.2.1]; exact k1.2.2.1, by rw [u2_n _ _ (by decide), f2.2.2.2]; exact k1.2.2.2⟩
    by_cases hi : inS (mm 1) T M p = true
    · rw [if_pos hi] at hK ⊢
      rw [if_neg (inS_t.mp hi).2.2]
      refine ⟨_, rfl, rfl, hK, fun i h1 h2 => ?_, fun q hq => ?_⟩
      · dsimp only
        rw [bt_take (by omega) h2, k2 i (by omega) h2, decide_eq_false (by omega)]; rfl
      · dsimp only
        rw [bt_take (by omega) (by omega), u2_s]
        by_cases eq : q = p
        · subst eq
          rw [upd_s, hi, decide_eq_true rfl, Bool.or_true]
          exact ⟨rfl, fun _ => rfl⟩
        · rw [upd_n _ _ eq, decide_eq_false eq, Bool.or_false]
          exact k3 q (by omega)
    · rw [if_neg hi] at hK ⊢
      rw [if_pos rfl]
      refine ⟨_, rfl, rfl, hK, fun i h1 h2 => k2 i (by omega) h2, fun q hq => ?_⟩
      dsimp only
      rw [u2_s]
      by_cases eq : q = p
      · subst eq
        rw [k2 q (by omega) (by omega)]
        refine ⟨?_, fun q => absurd q hi⟩
        cases h : inS (mm 1) T M q
        · rfl
        · exact absurd h hi
      · rw [upd_n _ _ eq]
        exact k3 q (by omega)
  · rintro ⟨S, x, d⟩ ⟨e, k1, -⟩
    dsimp only at e k1
    subst e
    dsimp only
    unfold f_X7_whoMisses_B13
    rw [rd_157, k1.1, V.1, Option.bind_some, ifle (by omega) (by omega), if_pos (by omega)]
theorem cnt_take {Q : Nat → Bool} {l : List Nat} : ∀ N, cntP (fun o => match l[o]? with | some q => Q q | none => false) N = (l.take N).countP Q
  | 0 => rfl
  | N + 1 => by
    rw [cntP_s, cnt_take N, List.take_add_one, List.countP_append]
    cases l[N]? with
    | none => rfl
    | some q =>
      simp only [Option.toList_some, List.countP_cons, List.countP_nil, Nat.zero_add]
theorem srt_lt {K : Nat → Nat} {n i j p q : Nat} (h : injK K n) (hi : (srt K n)[i]? = some p) (hj : (srt K n)[j]? = some q) : i < j ↔ K p < K q := by
  have hs := List.pairwise_iff_getElem.mp (srt_sorted h)
  obtain ⟨a1, a2⟩ := List.getElem?_eq_some_iff.mp hi
  obtain ⟨b1, b2⟩ := List.getElem?_eq_some_iff.mp hj
  constructor
  · intro hlt
    have := hs i j a1 b1 hlt
    rwa [a2, b2] at this
  · intro hlt
    rcases Nat.lt_trichotomy i j with g | g | g
    · exact g
    · subst g
      rw [a2] at b2
      rw [b2] at hlt
      omega
    · have := hs j i b1 a1 g
      rw [a2, b2] at this
      omega
theorem gp_1000 {m T : Nat → Int32} {M : Int32} {n p : Nat} (V : VM m n) (hT : isT m p (T p)) (hp : p < n) (h : inS m T M p = true) : (gpT m T p).toInt < 1000 := by
  obtain ⟨⟨μ, hμ, eμ⟩, -⟩ := V.mt p hp
  dsimp only at eμ
  rcases hT with ⟨e, -⟩ | ⟨v, hv, e, -⟩
  · exact absurd e (inS_t.mp h).2.2
  · unfold gpT
    rw [e, eμ, pk_sub_toInt (by omega) (by omega)]
    omega
/-- two orders of the same persons -/
theorem near_eq {m T : Nat → Int32} {M : Int32} {n j p : Nat} {g : Nat → Int32} (V : VM m n) (hT : ∀ p, p < n → isT m p (T p)) (hg : ∀ j, j < 16 → g j = gvc m T M (srt (kyM m) n) n j) (hj : (srt (kyM m) n)[j]? = some p) (hi : inS m T M p = true) : clc g j = crm m (gpT m T) (inS m T M) n p := by
  have hn := V.2.1
  have hR := okR_srt (kyM m) n
  have hinj : injK (kyM m) n := kyN_inj V.mt hn
  have hpn : p < n := (hR.2.2 p).mp (List.mem_of_getElem? hj)
  have hjn : j < n := by
    have := (List.getElem?_eq_some_iff.mp hj).1
    rwa [hR.1] at this
  have hgj : g j = gpT m T p := by
    rw [hg j (by omega)]
    unfold gvc
    rw [hj]
    dsimp only
    rw [if_pos ⟨hjn, hi⟩]
  have h1000 := gp_1000 V (hT p hpn) hpn hi
  have no : ¬ ((1000 : Int32) < gpT m T p ∨ ((1000 : Int32) = gpT m T p ∧ True)) := by
    rw [Int32.lt_iff_toInt_lt, show (1000 : Int32).toInt = 1000 by decide]
    rintro (q | ⟨q, -⟩)
    · omega
    · rw [← q, show (1000 : Int32).toInt = 1000 by decide] at h1000
      omega
  have no' : ∀ X : Prop, ¬ ((1000 : Int32) < gpT m T p ∨ ((1000 : Int32) = gpT m T p ∧ X)) := fun X q => no (q.elim Or.inl (fun q => Or.inr ⟨q.1, trivial⟩))
  unfold clc crm
  rw [← cntP_range (fun q => inS m T M q && decide (gpT m T q < gpT m T p ∨ (gpT m T q = gpT m T p ∧ kyM m q < kyM m p))), ← (okR_perm hR).countP_eq]
  have ht : (srt (kyM m) n).countP (fun q => inS m T M q && decide (gpT m T q < gpT m T p ∨ (gpT m T q = gpT m T p ∧ kyM m q < kyM m p))) = ((srt (kyM m) n).take 16).countP (fun q => inS m T M q && decide (gpT m T q < gpT m T p ∨ (gpT m T q = gpT m T p ∧ kyM m q < kyM m p))) := by
    rw [List.take_of_length_le (by rw [hR.1]; exact hn)]
  rw [ht, ← cnt_take]
  refine cntP_congr 16 (fun o ho => ?_)
  have hgo := hg o ho
  unfold gvc at hgo
  cases ho2 : (srt (kyM m) n)[o]? with
  | none =>
    rw [ho2] at hgo
    dsimp only at hgo ⊢
    rw [hgj, hgo]
    exact decide_eq_false (no' _)
  | some q =>
    rw [ho2] at hgo
    dsimp only at hgo ⊢
    have hon : o < n := by
      have := (List.getElem?_eq_some_iff.mp ho2).1
      rwa [hR.1] at this
    by_cases hq : inS m T M q = true
    · rw [if_pos ⟨hon, hq⟩] at hgo
      rw [hgj, hgo, hq, Bool.true_and, decide_eq_decide, srt_lt hinj ho2 hj]
    · rw [if_neg (fun h => hq h.2)] at hgo
      rw [hgj, hgo, decide_eq_false (no' _)]
      cases h : inS m T M q
      · rfl
      · exact absurd h hq
theorem crm_inj {m mis : Nat → Int32} {S : Nat → Bool} {n p q : Nat} (hinj : injK (kyM m) n) (hp : p < n) (hq : q < n) (sp : S p = true) (sq : S q = true) (h : crm m mis S n p = crm m mis S n q) : p = q := by
  have main : ∀ a b, a < n → b < n → S a = true → crm m mis S n a = crm m mis S n b → ¬ (mis a < mis b ∨ (mis a = mis b ∧ kyM m a < kyM m b)) := by
    intro a b ha hb sa he hlt
    obtain ⟨-, h2⟩ := cnt_sub (P := fun x => S x && decide (mis x < mis a ∨ (mis x = mis a ∧ kyM m x < kyM m a))) (Q := fun x => S x && decide (mis x < mis b ∨ (mis x = mis b ∧ kyM m x < kyM m b))) n (fun i _ e => by
      rw [Bool.and_eq_true, decide_eq_true_eq] at e ⊢
      refine ⟨e.1, ?_⟩
      have e2 := e.2
      rw [Int32.lt_iff_toInt_lt, ← Int32.toInt_inj] at e2 hlt ⊢
      omega)
    have h3 := h2 he a ha
    rw [sa, Bool.true_and, Bool.true_and, decide_eq_true hlt, decide_eq_true_eq] at h3
    rw [Int32.lt_iff_toInt_lt] at h3
    omega
  have h1 := main p q hp hq sp h
  have h2 := main q p hq hp sq h.symm
  rw [Int32.lt_iff_toInt_lt, ← Int32.toInt_inj] at h1 h2
  exact hinj p q hp hq (by omega)
theorem crm_congr {m mis mis' : Nat → Int32} {S S' : Nat → Bool} {n p : Nat} (hS : ∀ q, q < n → S q = S' q) (hm : ∀ q, q < n → S' q = true → mis q = mis' q) (hp : p < n) (sp : S' p = true) : crm m mis S n p = crm m mis' S' n p := by
  unfold crm
  refine cntP_congr n (fun q hq => ?_)
  rw [hS q hq]
  cases h : S' q
  · rw [Bool.false_and, Bool.false_and]
  · rw [hm q hq h, hm p hp sp]
theorem op_nearest {cm : CM} {mm : MM} (h : INV cm mm) (a1 : Int32) : EQ2 (f_X6_nearest cm a1) (f_X7_nearest mm a1) := by
  obtain ⟨cm', n, mm1, mm2, p1, p2, l, V, p3, p4, c1, c2, c3, d1, d2, d3⟩ := h.ask
  have hn := V.2.1
  unfold f_X6_nearest f_X7_nearest
  rcases wtn a1 15 (b := 15) rfl (by omega) with ⟨k, hk, rfl, q1, q2⟩ | ⟨-, q1, q2⟩
  rotate_left
  · rw [q1, q2, Option.bind_some, Option.bind_some, i00, i00]
    exact EQ2.k h _
  rw [q1, q2, Option.bind_some, Option.bind_some, i10, i10, p1, Option.bind_some]
  obtain ⟨s1, s2, -⟩ := c2.out
  have e1 : mm1 1 = mm 1 := s1.2.1
  have hinj : injK (kyM (mm 1)) n := kyN_inj V.mt hn
  have hR := okR_srt (kyM (mm 1)) n
  obtain ⟨T, hT⟩ : ∃ T : Nat → Int32, ∀ p, p < n → isT (mm 1) p (T p) := by
    have ex : ∀ p, ∃ t, p < n → isT (mm 1) p t := fun p => by
      by_cases hp : p < n
      · obtain ⟨t, c', -, a2, -⟩ := oleast (cm := cm') l V hp
        exact ⟨t, fun _ => a2⟩
      · exact ⟨0, fun q => absurd q hp⟩
    exact ⟨fun p => Classical.choose (ex p), fun p hp => Classical.choose_spec (ex p) hp⟩
  obtain ⟨x, c, i1, i2, i3⟩ := onear l V hT (fun r p hr => (s1.2.2.1 r p hr).1)
  obtain ⟨S, y, m1, j1, j2, j3⟩ := mmiss (c := cm' 1 1) (mm := mm1) (T := T) (n := n) (cm' 27 0 11) (by rw [e1]; exact l) (by rw [e1]; exact V) (by rw [e1]; exact hT)
  have e1' : m1 1 = mm 1 := j2.1.trans e1
  obtain ⟨t, k1, k2⟩ := oplace (cm := c) hk
  obtain ⟨t', o, g1, g2, g3⟩ := mplace (S := S) (mm := m1) (n := n) (by rw [e1']; exact V) hk
  rw [rowfill (by omega), Option.bind_some, i1, Option.bind_some]
  dsimp only
  rw [k1, Option.bind_some]
  unfold f_X7_whoMisses
  rw [c1, Option.bind_some, mchosen hn (by rw [e1]; exact V.1) s2, Option.bind_some, j1, Option.bind_some]
  dsimp only
  rw [Option.bind_some, g1, Option.bind_some]
  have eB : ∀ X : Option (Int32 × MM), X = some (t', m1) → X = some (t', m1) := fun _ h => h
  have hfin : INV c m1 := p2.kp (fun o ho => i2 o (by omega) (by omega) (by omega)) e1' (j2.2.1.trans c3.2.1) (j2.2.2.1.trans c3.2.2.2.1) (j2.2.2.2.trans c3.2.2.2.2)
  have e27 : c 27 = cm' 27 := i2 27 (by decide) (by decide) (by decide)
  rw [e1] at j3
  rw [e1'] at g3
  have hcr : ∀ p, p < n → inS (mm 1) T (cm' 27 0 11) p = true → crm (mm 1) (m1 18) (bt S) n p = crm (mm 1) (gpT (mm 1) T) (inS (mm 1) T (cm' 27 0 11)) n p := fun p hp sp => crm_congr (fun q hq => (j3 q hq).1) (fun q hq sq => (j3 q hq).2 sq) hp sp
  have hgv : ∀ j, j < 16 → ¬ c 31 1 j = 1000 → ∃ p, p < n ∧ (srt (kyM (mm 1)) n)[j]? = some p ∧ inS (mm 1) T (cm' 27 0 11) p = true := by
    intro j hj hne
    rw [i3 j hj] at hne
    unfold gvc at hne
    cases hq : (srt (kyM (mm 1)) n)[j]? with
    | none => rw [hq] at hne; exact absurd rfl hne
    | some p =>
      rw [hq] at hne
      dsimp only at hne
      by_cases hc : j < n ∧ inS (mm 1) T (cm' 27 0 11) p = true
      · exact ⟨p, (hR.2.2 p).mp (List.mem_of_getElem? hq), rfl, hc.2⟩
      · rw [if_neg hc] at hne
        exact absurd rfl hne
  have ans : ∃ v, (if t = (-9) then some ((-9), c) else (f_X0_personAt c 27 t).bind fun x135 => some (x135, c)) = some (v, c) ∧ v = t' := by
    rcases k2 with ⟨rfl, k2⟩ | ⟨j, hj, rfl, k2, k3⟩
    · refine ⟨_, by rw [if_pos rfl], ?_⟩
      rcases g3 with ⟨g3, -⟩ | ⟨p, hp, g3, g4, g5⟩
      · exact g3.symm
      · exfalso
        rw [(j3 p hp).1] at g4
        have hat := srt_at hinj hp
        have hjn : cntP (fun q => decide (kyM (mm 1) q < kyM (mm 1) p)) n < 16 := by
          have := (List.getElem?_eq_some_iff.mp hat).1
          rw [hR.1] at this
          omega
        have hv := i3 _ hjn
        have hlt : cntP (fun q => decide (kyM (mm 1) q < kyM (mm 1) p)) n < n := by
          have := (List.getElem?_eq_some_iff.mp hat).1
          rwa [hR.1] at this
        unfold gvc at hv
        rw [hat] at hv
        dsimp only at hv
        rw [if_pos ⟨hlt, g4⟩] at hv
        refine k2 _ hjn (fun q => ?_) ?_
        · have := gp_1000 V (hT p hp) hp g4
          rw [← hv, q, show (1000 : Int32).toInt = 1000 by decide] at this
          omega
        · rw [near_eq V hT i3 hat g4, ← hcr p hp g4]; exact g5
    · obtain ⟨p, hp, hj2, sp⟩ := hgv j hj k2
      refine ⟨nI p, by rw [if_neg (m9_ne (by omega)), opers' hj (by rw [e27]; exact (s1.2.2.1 j p hj2).1), Option.bind_some], ?_⟩
      rw [near_eq V hT i3 hj2 sp, ← hcr p hp sp] at k3
      rcases g3 with ⟨-, g3⟩ | ⟨p', hp', g3, g4, g5⟩
      · exact absurd k3 (g3 p hp (by rw [(j3 p hp).1]; exact sp))
      · have := crm_inj hinj hp hp' (by rw [(j3 p hp).1]; exact sp) g4 (k3.trans g5.symm)
        rw [g3, this]
  obtain ⟨v, z1, rfl⟩ := ans
  rw [z1]
  refine ⟨v, c, m1, rfl, ?_, hfin⟩
  rw [← g2]
  cases o <;> rfl
