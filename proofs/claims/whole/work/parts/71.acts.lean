/-! PURE PART: an act begins: the office is kept, on both sides -/
theorem u3_o {cm : CM} {o p o' : Nat} {f : Nat → Int32} (h : o' ≠ o) : u3 cm o p f o' = cm o' := by rw [u3_pC, pC_n _ _ h]
theorem u3_op {cm : CM} {o p p' : Nat} {f : Nat → Int32} (h : p' ≠ p) : u3 cm o p f o p' = cm o p' := by rw [u3_pC, pC_s, u2_n _ _ h]
theorem rmI_nI {a d : Nat} (ha : a < 2 ^ 31) (h0 : 0 < d) (hd : d < 2 ^ 31) : rmI (nI a) (nI d) = some (nI (a % d)) := by
  unfold rmI
  rw [if_neg (nI_ne0 h0 hd), pk_rem ha h0 hd]
theorem dvI_nI {a d : Nat} (ha : a < 2 ^ 31) (h0 : 0 < d) (hd : d < 2 ^ 31) : dvI (nI a) (nI d) = some (nI (a / d)) := by
  unfold dvI
  rw [if_neg (nI_ne0 h0 hd), pk_div ha h0 hd]
theorem page_y {a : Nat} (h : a < 24) : f_X2_pageAt (nI a) = some (some a) := by
  unfold f_X2_pageAt
  rw [if_neg (nI_pos (by omega)), if_neg (show ¬ (24 : Int32) ≤ nI a from nI_ge (b := 24) h (by omega)), if_neg (nI_in h (by omega)), nI_clamp (by omega)]
theorem mkeep {mm : MM} {a b : Nat} (ha : a < 24) (hb : b ≤ 24) (h3 : mm 0 3 = nI a) (h2 : mm 0 2 = nI b) :
    ∃ mm', f_X7_keep mm = some mm' ∧ keeps [0, 2] mm mm' ∧ mm' 0 3 = nI ((a + 1) % 24) ∧ mm' 0 2 = nI (if 24 ≤ b then 24 else b + 1) ∧ (∀ j, j < 159 → mm' 2 (159 * a + j) = mm 1 j) ∧ ∀ j, j < 159 * a ∨ 159 * a + 159 ≤ j → mm' 2 j = mm 2 j := by
  have key := itr_for (step := fun s : Int32 × MM => f_X7_keep_B2 s.1 s.2)
    (fun k s => s.1 = nI k ∧ keeps [2] mm s.2 ∧ (∀ j, j < k → s.2 2 (159 * a + j) = mm 1 j) ∧ ∀ j, j < 159 * a ∨ 159 * a + 159 ≤ j → s.2 2 j = mm 2 j) 159 (0, mm) (by omega) ⟨rfl, keeps.rf _ _, fun j hj => by omega, fun _ _ => rfl⟩ ?_ ?_
  · obtain ⟨⟨x, m1⟩, hI, -, k1, k2, k3⟩ := key
    dsimp only at k1 k2 k3
    have e3 : m1 0 3 = nI a := by rw [k1 0 (by decide)]; exact h3
    have e2 : m1 0 2 = nI b := by rw [k1 0 (by decide)]; exact h2
    refine ⟨u2 (u2 m1 0 (upd (m1 0) 3 (nI ((a + 1) % 24)))) 0 (upd ((u2 m1 0 (upd (m1 0) 3 (nI ((a + 1) % 24)))) 0) 2 (nI (if 24 ≤ b then 24 else b + 1))), ?_, ((k1.wd (by decide)).up (by decide)).up (by decide), ?_, ?_, fun j hj => ?_, fun j hj => ?_⟩
    · unfold f_X7_keep
      rw [hI, Option.bind_some]
      dsimp only
      rw [e3, nI_1, show (24 : Int32) = nI 24 from rfl, rmI_nI (by omega) (by omega) (by omega), Option.bind_some, u2_s, upd_n _ _ (by decide), e2, ifle (by omega) (by omega)]
      by_cases h : 24 ≤ b
      · rw [if_pos h, if_pos h]
      · rw [if_neg h, if_neg h, nI_1]
    · rw [u2_s, upd_n _ _ (by decide), u2_s, upd_s]
    · rw [u2_s, upd_s]
    · rw [u2_n _ _ (by decide), u2_n _ _ (by decide)]; exact k2 j hj
    · rw [u2_n _ _ (by decide), u2_n _ _ (by decide)]; exact k3 j hj
  · rintro k ⟨x, m1⟩ hk ⟨e, k1, k2, k3⟩
    dsimp only at e k1 k2 k3
    subst e
    dsimp only
    refine ⟨(nI (k + 1), u2 m1 2 (upd (m1 2) (159 * a + k) (mm 1 k))), ?_, rfl, k1.up (by decide), fun j hj => ?_, fun j hj => ?_⟩
    · unfold f_X7_keep_B2
      rw [show (159 : Int32) = nI 159 from rfl, ifle (by omega) (by omega), if_neg (by omega), rd_nI _ (by omega) (by omega), k1 1 (by decide), Option.bind_some, k1 0 (by decide), h3, pk_mul, nI_add, wr_nI _ _ (by omega) (by omega), Option.bind_some, nI_1]
    · dsimp only
      rw [u2_s]
      by_cases e : j = k
      · subst e; exact upd_s _ _ _
      · rw [upd_n _ _ (by omega)]; exact k2 j (by omega)
    · dsimp only
      rw [u2_s, upd_n _ _ (by omega)]; exact k3 j hj
  · rintro ⟨x, m1⟩ ⟨e, k1, -⟩
    dsimp only at e
    subst e
    dsimp only
    unfold f_X7_keep_B2
    rw [if_pos (by decide)]
theorem okeep {cm : CM} {a b : Nat} (ha : a < 24) (hb : b ≤ 24) (h3 : cm 2 0 1 = nI a) (h2 : cm 2 0 2 = nI b) :
    ∃ cm', f_X6_beginAct cm = some cm' ∧ (∀ o, o ≠ 0 → o ≠ 2 → o ≠ 3 + a → cm' o = cm o) ∧ cm' 2 0 1 = nI ((a + 1) % 24) ∧ cm' 2 0 2 = nI (if 24 ≤ b then 24 else b + 1) ∧ (∀ j, j < 159 → cm' (3 + a) 1 j = cm 1 1 j) ∧ cm' 0 0 7 = 1 := by
  have e1 : (u3 cm (3 + a) 1 (va_cpy (cm 1 1) (cm (3 + a) 1) 0 0 159)) 2 = cm 2 := u3_o (by omega)
  have hx : ((if (nI a) = 23 then some 0 else some ((nI a) + 1)) : Option Int32) = some (nI ((a + 1) % 24)) := by
    by_cases h : a = 23
    · subst h; rfl
    · rw [if_neg (show ¬ nI a = 23 from fun q => h ((nI_eq (b := 23) (by omega) (by omega)).mp q)), nI_1, Nat.mod_eq_of_lt (by omega)]
  have hy : (if (24 : Int32) < nI b + 1 then (24 : Int32) else nI b + 1) = nI (if 24 ≤ b then 24 else b + 1) := by
    rw [nI_1, show (24 : Int32) = nI 24 from rfl, iflt (by omega) (by omega)]
    by_cases h : 24 ≤ b
    · rw [if_pos h, if_pos (by omega)]
    · rw [if_neg h, if_neg (by omega)]
  have hk : f_X2_keep cm 1 = some (pC (u3 cm (3 + a) 1 (va_cpy (cm 1 1) (cm (3 + a) 1) 0 0 159)) 2 (u2 (u2 (cm 2) 0 (upd (cm 2 0) 1 (nI ((a + 1) % 24)))) 0 (upd ((u2 (cm 2) 0 (upd (cm 2 0) 1 (nI ((a + 1) % 24)))) 0) 2 (nI (if 24 ≤ b then 24 else b + 1))))) := by
    unfold f_X2_keep
    rw [h3, page_y ha, Option.bind_some]
    dsimp only
    unfold f_X3_copyFrom
    rw [Option.bind_some, e1, h3, hx, Option.bind_some, u3_pC, u3_pC, pC_s, pC_pC, e1, u2_s, upd_n _ _ (by decide), h2, hy]
  refine ⟨u3 (pC (u3 cm (3 + a) 1 (va_cpy (cm 1 1) (cm (3 + a) 1) 0 0 159)) 2 (u2 (u2 (cm 2) 0 (upd (cm 2 0) 1 (nI ((a + 1) % 24)))) 0 (upd ((u2 (cm 2) 0 (upd (cm 2 0) 1 (nI ((a + 1) % 24)))) 0) 2 (nI (if 24 ≤ b then 24 else b + 1))))) 0 0 (upd ((pC (u3 cm (3 + a) 1 (va_cpy (cm 1 1) (cm (3 + a) 1) 0 0 159)) 2 (u2 (u2 (cm 2) 0 (upd (cm 2 0) 1 (nI ((a + 1) % 24)))) 0 (upd ((u2 (cm 2) 0 (upd (cm 2 0) 1 (nI ((a + 1) % 24)))) 0) 2 (nI (if 24 ≤ b then 24 else b + 1))))) 0 0) 7 1), ?_, fun o h1 h2 h3 => ?_, ?_, ?_, fun j hj => ?_, ?_⟩
  · unfold f_X6_beginAct
    rw [hk, Option.bind_some]
  · rw [u3_o h1, pC_n _ _ h2, u3_o h3]
  · rw [u3_o (by omega), pC_s, u2_s, upd_n _ _ (by decide), u2_s, upd_s]
  · rw [u3_o (by omega), pC_s, u2_s, upd_s]
  · rw [u3_o (by omega), pC_n _ _ (by omega), u3_s, pk_cpy_in (by omega) (by omega), Nat.sub_zero, Nat.zero_add]
  · rw [u3_s, upd_s]
theorem VM.cg {m m' : Nat → Int32} {n : Nat} (h : VM m n) (hp : ∀ i, i < 159 → m' i = m i) : VM m' n := by
  obtain ⟨v1, v2, v3, v4, v5, v6⟩ := h
  refine ⟨by rw [hp _ (by omega)]; exact v1, v2, fun p hp' => ?_, ⟨fun k hk => ?_, fun i hi => ?_⟩, ⟨?_, fun k hk => ?_⟩, ⟨fun i hi => ?_, fun k hk => ?_, fun i j hi hj => ?_⟩⟩
  · have := v3 p hp'
    unfold VP at this ⊢
    rw [hp _ (by omega), hp _ (by omega), hp _ (by omega), hp _ (by omega), hp _ (by omega), hp _ (by omega), hp _ (by omega)]
    exact this
  · rw [hp _ (by omega)]; exact v4.1 k hk
  · rw [hp _ (by omega)]; exact v4.2 i hi
  · rw [hp _ (by omega)]; exact v5.1
  · rw [hp _ (by omega)]; exact v5.2 k hk
  · rw [hp _ (by omega)]; exact v6.1 i hi
  · obtain ⟨i, hi, e⟩ := v6.2.1 k hk
    exact ⟨i, hi, by rw [hp _ (by omega)]; exact e⟩
  · rw [hp _ (by omega), hp _ (by omega)]; exact v6.2.2 i j hi hj
theorem keep_2 {cm : CM} {mm : MM} {n : Nat} (hl : lay (cm 1 1) (mm 1)) (hV : VM (mm 1) n) (hR : RG cm mm) :
    ∃ cm' mm', f_X6_beginAct cm = some cm' ∧ f_X7_keep mm = some mm' ∧ RG cm' mm' ∧ cm' 1 = cm 1 ∧ mm' 1 = mm 1 ∧ cm' 0 0 7 = 1 := by
  obtain ⟨a, b, g1, g2, g3, g4, g5, g6, g7⟩ := hR
  obtain ⟨cm', a1, a2, a3, a4, a5, a6⟩ := okeep g1 g2 g3 g5
  obtain ⟨mm', b1, b2, b3, b4, b5, b6⟩ := mkeep g1 g2 g4 g6
  refine ⟨cm', mm', a1, b1, ⟨(a + 1) % 24, if 24 ≤ b then 24 else b + 1, Nat.mod_lt _ (by omega), by split <;> omega, a3, b3, a4, b4, fun d h1 h2 => ?_⟩, a2 1 (by omega) (by omega) (by omega), b2 1 (by decide), a6⟩
  by_cases e : d = 1
  · subst e
    rw [show ((a + 1) % 24 + 24 - 1) % 24 = a by omega]
    have hp : ∀ i, i < 159 → pg mm' a i = mm 1 i := fun i hi => b5 i hi
    refine ⟨fun i hi => ?_, n, ?_⟩
    · rw [a5 i hi, hp _ (mi_lt hi)]; exact hl i hi
    · exact hV.cg hp
  · have hbd : d - 1 ≤ b := by split at h2 <;> omega
    have hd24 : d ≤ 24 := by split at h2 <;> omega
    rw [show ((a + 1) % 24 + 24 - d) % 24 = (a + 24 - (d - 1)) % 24 by omega]
    have h := g7 (d - 1) (by omega) hbd
    have hne : (a + 24 - (d - 1)) % 24 ≠ a := by omega
    have hlt : (a + 24 - (d - 1)) % 24 < 24 := Nat.mod_lt _ (by omega)
    generalize (a + 24 - (d - 1)) % 24 = i at *
    have hpg : ∀ j, j < 159 → pg mm' i j = pg mm i j := by
      intro j hj
      unfold pg
      rw [b6 _ (by omega)]
    obtain ⟨h1, n', h3⟩ := h
    refine ⟨fun j hj => ?_, n', ?_⟩
    · rw [a2 _ (by omega) (by omega) (by omega), hpg _ (mi_lt hj)]; exact h1 j hj
    · exact h3.cg hpg
/-- how an act ends -/
theorem act_end {cm cm' : CM} {mm mm' : MM} {n : Nat} (hR : RG cm mm) (h0 : cm 0 0 7 = 1) (hc : ∀ o, o ≠ 1 → o < 28 → cm' o = cm o) (h2 : mm' 0 = mm 0) (h3 : mm' 2 = mm 2) (hl : lay (cm' 1 1) (mm' 1)) (hV : VM (mm' 1) n) : INV cm' mm' :=
  ⟨n, hl, hV, hR.kp (fun o h1 h2 => hc o (by omega) (by omega)) h3 (by rw [h2]) (by rw [h2]), fun h => by rw [hc 0 (by omega) (by omega), h0] at h; exact absurd h (by decide)⟩
