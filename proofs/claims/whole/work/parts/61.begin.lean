/-! PURE PART: what each set of groups has -/
/-- the sum over the first g groups that are in the set s -/
def rsS (f : Nat → Nat) (s : Nat) : Nat → Nat
  | 0 => 0
  | g + 1 => rsS f s g + if bt (nI s) g = true then f g else 0
theorem rsS_s (f : Nat → Nat) (s g : Nat) : rsS f s (g + 1) = rsS f s g + if bt (nI s) g = true then f g else 0 := rfl
theorem rsS_congr {f f' : Nat → Nat} {s : Nat} : ∀ g, (∀ i, i < g → f i = f' i) → rsS f s g = rsS f' s g
  | 0, _ => rfl
  | g + 1, h => by rw [rsS_s, rsS_s, rsS_congr g (fun i hi => h i (by omega)), h g (by omega)]
theorem rsS_le {f : Nat → Nat} {s b : Nat} (hf : ∀ i, f i ≤ b) : ∀ g, rsS f s g ≤ b * g
  | 0 => Nat.le_refl _
  | g + 1 => by
    have := rsS_le (s := s) hf g
    have := hf g
    rw [rsS_s, Nat.mul_succ]
    split <;> omega
theorem ochange {cm : CM} {C g : Nat} {ch : MM} (hg : g < 4) (y : Int32) : ∃ ch', f_X5_changeLeft (pC cm C ch) C (nI g) y = some (pC cm C ch') ∧ keeps [18, 20] ch ch' ∧ (∀ s, s < 16 → ch' 18 s = ch 18 s + if bt (nI s) g = true then y else 0) ∧ ch' 20 = upd (ch 20) g (ch 20 g + y) := by
  unfold f_X5_changeLeft
  rw [rowadd hg (by omega), Option.bind_some, u3_pC', pC_s]
  have key := itr_for (step := fun s : Int32 × CM => f_X5_changeLeft_B11 C (nI g) y s.1 s.2)
    (fun k s => s.1 = nI k ∧ ∃ ch', s.2 = pC cm C ch' ∧ keeps [18, 20] ch ch' ∧ ch' 20 = upd (ch 20) g (ch 20 g + y) ∧ ∀ j, ch' 18 j = if j < k then ch 18 j + (if bt (nI j) g = true then y else 0) else ch 18 j) 16 (0, pC cm C (u2 ch 20 (upd (ch 20) g (ch 20 g + y)))) (by omega) ⟨rfl, _, rfl, (keeps.rf _ _).up (by decide), by rw [u2_s], fun j => by rw [if_neg (by omega), u2_n _ _ (by decide)]⟩ ?_ ?_
  · obtain ⟨⟨a, m'⟩, hI, -, ch', h8, hk, k20, k18⟩ := key
    dsimp only at h8
    subst h8
    rw [hI, Option.bind_some]
    exact ⟨ch', rfl, hk, fun s hs => by rw [k18 s, if_pos hs], k20⟩
  · rintro k ⟨a, m'⟩ hk ⟨h9, ch', h8, hkp, k20, k18⟩
    dsimp only at h8 h9
    subst h8; subst h9
    dsimp only
    have e0 : ch' 18 k = ch 18 k := by rw [k18 k, if_neg (by omega)]
    by_cases h : bt (nI k) g = true
    · refine ⟨(nI (k + 1), pC cm C (u2 ch' 18 (upd (ch' 18) k (ch 18 k + y)))), ?_, rfl, _, rfl, hkp.up (by decide), by rw [u2_n _ _ (by decide)]; exact k20, fun j => ?_⟩
      · unfold f_X5_changeLeft_B11
        rw [show (16 : Int32) = nI 16 from rfl, ifle (by omega) (by omega), if_neg (by omega), if_pos (by rw [bt_test (by omega)]; exact h), pC_s, rd_nI _ hk (by omega), Option.bind_some, e0, wr_nI _ _ hk (by omega), Option.bind_some, u3_pC', nI_1]
      · rw [u2_s]
        by_cases e : j = k
        · subst e
          rw [upd_s, if_pos (show j < j + 1 by omega), if_pos h]
        · rw [upd_n _ _ e, k18 j]
          by_cases e2 : j < k
          · rw [if_pos e2, if_pos (show j < k + 1 by omega)]
          · rw [if_neg e2, if_neg (show ¬ j < k + 1 by omega)]
    · refine ⟨(nI (k + 1), pC cm C ch'), ?_, rfl, ch', rfl, hkp, k20, fun j => ?_⟩
      · unfold f_X5_changeLeft_B11
        rw [show (16 : Int32) = nI 16 from rfl, ifle (by omega) (by omega), if_neg (by omega), if_neg (by rw [bt_test (by omega)]; exact h), nI_1]
      · rw [k18 j]
        by_cases e : j = k
        · subst e
          rw [if_neg (show ¬ j < j by omega), if_pos (show j < j + 1 by omega), if_neg h, Int32.add_zero]
        · by_cases e2 : j < k
          · rw [if_pos e2, if_pos (show j < k + 1 by omega)]
          · rw [if_neg e2, if_neg (show ¬ j < k + 1 by omega)]
  · rintro ⟨a, m'⟩ ⟨h9, ch', h8, -⟩
    dsimp only at h8 h9
    subst h8; subst h9
    dsimp only
    unfold f_X5_changeLeft_B11
    rw [if_pos (by decide)]
theorem obegin {cm : CM} {C k : Nat} {ch : MM} {f : Nat → Nat} (hk : k < 4) (hf : ∀ g, g < 4 → ch 6 (4 * k + g) = nI (f g)) : ∃ ch', f_X5_begin (pC cm C ch) C (nI k) = some (pC cm C ch') ∧ keeps [18, 20] ch ch' ∧ (∀ s, s < 16 → ch' 18 s = nI (rsS f s 4)) ∧ ∀ g, g < 4 → ch' 20 g = nI (f g) := by
  unfold f_X5_begin
  have key := itr_for (step := fun s : Int32 × CM => f_X5_begin_B2 C s.1 s.2)
    (fun k s => s.1 = nI k ∧ ∃ ch', s.2 = pC cm C ch' ∧ keeps [18, 20] ch ch' ∧ ∀ j, j < k → ch' 18 j = 0) 16 (0, pC cm C ch) (by omega) ⟨rfl, _, rfl, keeps.rf _ _, fun j hj => by omega⟩ ?_ ?_
  · obtain ⟨⟨a, m'⟩, hI, -, ch1, h8, hk1, k18⟩ := key
    dsimp only at h8
    subst h8
    rw [hI, Option.bind_some]
    dsimp only
    rw [rowfill (by omega), Option.bind_some, u3_pC', pC_s]
    have key2 := itr_for (step := fun s : Int32 × CM => f_X5_begin_B34 C (nI k) s.1 s.2)
      (fun g s => s.1 = nI g ∧ ∃ ch', s.2 = pC cm C ch' ∧ keeps [18, 20] ch ch' ∧ (∀ s, s < 16 → ch' 18 s = nI (rsS f s g)) ∧ ∀ j, j < 4 → ch' 20 j = if j < g then nI (f j) else 0) 4 (0, pC cm C (u2 ch1 20 (mixf 4 (fun _ => 0) (ch1 20)))) (by omega) ⟨rfl, _, rfl, hk1.up (by decide), fun s hs => by rw [u2_n _ _ (by decide), k18 s hs]; rfl, fun j hj => by rw [u2_s, mix_lt _ _ hj, if_neg (by omega)]⟩ ?_ ?_
    · obtain ⟨⟨a2, m2⟩, hI2, -, ch2, h82, hk2, k182, k20⟩ := key2
      dsimp only at h82
      subst h82
      rw [hI2, Option.bind_some]
      exact ⟨ch2, rfl, hk2, k182, fun g hg => by rw [k20 g hg, if_pos hg]⟩
    · rintro g ⟨a2, m2⟩ hg ⟨h9, ch2, h8, hk2, k182, k20⟩
      dsimp only at h8 h9
      subst h8; subst h9
      dsimp only
      obtain ⟨ch3, c1, c2, c3, c4⟩ := ochange (cm := cm) (C := C) (ch := ch2) hg (nI (f g))
      refine ⟨(nI (g + 1), pC cm C ch3), ?_, rfl, ch3, rfl, hk2.tr c2 (by decide), fun s hs => ?_, fun j hj => ?_⟩
      · unfold f_X5_begin_B34
        rw [show (4 : Int32) = nI 4 from rfl, ifle (by omega) (by omega), if_neg (by omega), ofreeRes hk hg, Option.bind_some, hk2 6 (by decide), hf g hg, c1, Option.bind_some, nI_1]
      · rw [c3 s hs, k182 s hs, rsS_s]
        by_cases e : bt (nI s) g = true
        · rw [if_pos e, if_pos e, nI_add]
        · rw [if_neg e, if_neg e, Int32.add_zero]; rfl
      · rw [c4]
        by_cases e : j = g
        · subst e
          rw [upd_s, k20 j hj, if_neg (by omega), if_pos (by omega), Int32.zero_add]
        · rw [upd_n _ _ e, k20 j hj]
          by_cases e2 : j < g
          · rw [if_pos e2, if_pos (by omega)]
          · rw [if_neg e2, if_neg (by omega)]
    · rintro ⟨a, m'⟩ ⟨h9, ch', h8, -⟩
      dsimp only at h8 h9
      subst h8; subst h9
      dsimp only
      unfold f_X5_begin_B34
      rw [if_pos (by decide)]
  · rintro k' ⟨a, m'⟩ hk' ⟨h9, ch', h8, hkp, k18⟩
    dsimp only at h8 h9
    subst h8; subst h9
    dsimp only
    refine ⟨(nI (k' + 1), pC cm C (u2 ch' 18 (upd (ch' 18) k' 0))), ?_, rfl, _, rfl, hkp.up (by decide), fun j hj => ?_⟩
    · unfold f_X5_begin_B2
      rw [show (16 : Int32) = nI 16 from rfl, ifle (by omega) (by omega), if_neg (by omega), pC_s, wr_nI _ _ hk' (by omega), Option.bind_some, u3_pC', nI_1]
    · rw [u2_s]
      by_cases e : j = k'
      · subst e; exact upd_s _ _ _
      · rw [upd_n _ _ e]; exact k18 j (by omega)
  · rintro ⟨a, m'⟩ ⟨h9, ch', h8, -⟩
    dsimp only at h8 h9
    subst h8; subst h9
    dsimp only
    unfold f_X5_begin_B2
    rw [if_pos (by decide)]
theorem mleave {mm : MM} {k : Nat} {f : Nat → Nat} (hk : k < 4) (hf : ∀ g, g < 4 → mm 5 (4 * k + g) = nI (f g)) : ∃ mm', f_X7_leaveAll mm (nI k) = some mm' ∧ keeps [16] mm mm' ∧ ∀ g, g < 4 → mm' 16 g = nI (f g) := by
  unfold f_X7_leaveAll
  have key := itr_for (step := fun s : Int32 × MM => f_X7_leaveAll_B2 (nI k) s.1 s.2)
    (fun g s => s.1 = nI g ∧ keeps [16] mm s.2 ∧ ∀ j, j < g → s.2 16 j = nI (f j)) 4 (0, mm) (by omega) ⟨rfl, keeps.rf _ _, fun j hj => by omega⟩ ?_ ?_
  · obtain ⟨⟨a, m'⟩, hI, -, hk1, k16⟩ := key
    rw [hI, Option.bind_some]
    exact ⟨m', rfl, hk1, k16⟩
  · rintro g ⟨a, m'⟩ hg ⟨h9, hkp, k16⟩
    dsimp only at h9 hkp k16
    subst h9
    refine ⟨(nI (g + 1), u2 m' 16 (upd (m' 16) g (nI (f g)))), ?_, rfl, hkp.up (by decide), fun j hj => ?_⟩
    · dsimp only
      unfold f_X7_leaveAll_B2
      rw [show (4 : Int32) = nI 4 from rfl, ifle (by omega) (by omega), if_neg (by omega), pk_mul, nI_add, rd_nI _ (by omega) (by omega), Option.bind_some, hkp 5 (by decide), hf g hg, wr_nI _ _ hg (by omega), Option.bind_some, nI_1]
    · dsimp only
      rw [u2_s]
      by_cases e : j = g
      · subst e; exact upd_s _ _ _
      · rw [upd_n _ _ e]; exact k16 j (by omega)
  · rintro ⟨a, m'⟩ ⟨h9, -⟩
    dsimp only at h9
    subst h9
    dsimp only
    unfold f_X7_leaveAll_B2
    rw [if_pos (by decide)]
theorem bit_mul {x : Int32} {g l : Nat} (hg : g < 32) : ((x >>> (nI g &&& 31)) &&& 1) * nI l = nI (if bt x g = true then l else 0) := by
  rw [and1, b_sshr g hg x (by omega), Nat.add_zero, if_pos hg]
  by_cases h : bt x g = true
  · rw [if_pos h, if_pos h, Int32.one_mul]
  · rw [if_neg h, if_neg h, Int32.zero_mul]; rfl
theorem msum {mm : MM} {f : Nat → Nat} (hf : ∀ g, g < 4 → mm 16 g = nI (f g)) : ∃ mm', f_X7_sumHave mm = some mm' ∧ keeps [13] mm mm' ∧ ∀ s, s < 16 → mm' 13 s = nI (rsS f s 4) := by
  unfold f_X7_sumHave
  have key := itr_for (step := fun s : Int32 × MM => f_X7_sumHave_B2 s.1 s.2)
    (fun k s => s.1 = nI k ∧ keeps [13] mm s.2 ∧ ∀ j, j < k → s.2 13 j = nI (rsS f j 4)) 16 (0, mm) (by omega) ⟨rfl, keeps.rf _ _, fun j hj => by omega⟩ ?_ ?_
  · obtain ⟨⟨a, m'⟩, hI, -, hk1, k13⟩ := key
    rw [hI, Option.bind_some]
    exact ⟨m', rfl, hk1, k13⟩
  · rintro k ⟨a, m'⟩ hk ⟨h9, hkp, k13⟩
    dsimp only at h9 hkp k13
    subst h9
    dsimp only
    have key2 := itr_for (step := fun s : Int32 × MM => f_X7_sumHave_B17 (nI k) s.1 s.2)
      (fun g s => s.1 = nI g ∧ keeps [13] mm s.2 ∧ s.2 13 k = nI (rsS f k g) ∧ ∀ j, j < k → s.2 13 j = nI (rsS f j 4)) 4 (0, u2 m' 13 (upd (m' 13) k 0)) (by omega) ⟨rfl, hkp.up (by decide), by dsimp only; rw [u2_s, upd_s]; rfl, fun j hj => by dsimp only; rw [u2_s, upd_n _ _ (by omega)]; exact k13 j hj⟩ ?_ ?_
    · obtain ⟨⟨a2, m2⟩, hI2, -, hk2, k2, k3⟩ := key2
      dsimp only at hk2 k2 k3
      refine ⟨(nI (k + 1), m2), ?_, rfl, hk2, fun j hj => ?_⟩
      · unfold f_X7_sumHave_B2
        rw [show (16 : Int32) = nI 16 from rfl, ifle (by omega) (by omega), if_neg (by omega), wr_nI _ _ hk (by omega), Option.bind_some, hI2, Option.bind_some, nI_1]
      · by_cases e : j = k
        · subst e; exact k2
        · exact k3 j (by omega)
    · rintro g ⟨a2, m2⟩ hg ⟨h9, hk2, k2, k3⟩
      dsimp only at h9 hk2 k2 k3
      subst h9
      refine ⟨(nI (g + 1), u2 m2 13 (upd (m2 13) k (nI (rsS f k (g + 1))))), ?_, rfl, hk2.up (by decide), by dsimp only; rw [u2_s, upd_s], fun j hj => by dsimp only; rw [u2_s, upd_n _ _ (by omega)]; exact k3 j hj⟩
      dsimp only
      unfold f_X7_sumHave_B17
      rw [show (4 : Int32) = nI 4 from rfl, ifle (by omega) (by omega), if_neg (by omega), rd_nI _ hk (by omega), Option.bind_some, isin, Option.bind_some, rd_nI _ hg (by omega), Option.bind_some, hk2 16 (by decide), hf g hg, bit_mul (by omega), k2, nI_add, ← rsS_s, wr_nI _ _ hk (by omega), Option.bind_some, nI_1]
    · rintro ⟨a, m'⟩ ⟨h9, -⟩
      dsimp only at h9
      subst h9
      dsimp only
      unfold f_X7_sumHave_B17
      rw [if_pos (by decide)]
  · rintro ⟨a, m'⟩ ⟨h9, -⟩
    dsimp only at h9
    subst h9
    dsimp only
    unfold f_X7_sumHave_B2
    rw [if_pos (by decide)]
theorem mno {mm : MM} : ∃ mm', f_X7_noOthers mm = some mm' ∧ keeps [14] mm mm' ∧ ∀ s, s < 16 → mm' 14 s = 0 := by
  unfold f_X7_noOthers
  have key := itr_for (step := fun s : Int32 × MM => f_X7_noOthers_B2 s.1 s.2)
    (fun k s => s.1 = nI k ∧ keeps [14] mm s.2 ∧ ∀ j, j < k → s.2 14 j = 0) 16 (0, mm) (by omega) ⟨rfl, keeps.rf _ _, fun j hj => by omega⟩ ?_ ?_
  · obtain ⟨⟨a, m'⟩, hI, -, hk1, k13⟩ := key
    rw [hI, Option.bind_some]
    exact ⟨m', rfl, hk1, k13⟩
  · rintro k ⟨a, m'⟩ hk ⟨h9, hkp, k13⟩
    dsimp only at h9 hkp k13
    subst h9
    refine ⟨(nI (k + 1), u2 m' 14 (upd (m' 14) k 0)), ?_, rfl, hkp.up (by decide), fun j hj => ?_⟩
    · dsimp only
      unfold f_X7_noOthers_B2
      rw [show (16 : Int32) = nI 16 from rfl, ifle (by omega) (by omega), if_neg (by omega), wr_nI _ _ hk (by omega), Option.bind_some, nI_1]
    · dsimp only
      rw [u2_s]
      by_cases e : j = k
      · subst e; exact upd_s _ _ _
      · rw [upd_n _ _ e]; exact k13 j (by omega)
  · rintro ⟨a, m'⟩ ⟨h9, -⟩
    dsimp only at h9
    subst h9
    dsimp only
    unfold f_X7_noOthers_B2
    rw [if_pos (by decide)]
