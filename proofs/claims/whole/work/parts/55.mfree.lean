/-! PURE PART: free seats of the reference -/
theorem mnoted {mm : MM} {n k : Nat} {g : Int32} (hc : mm 1 157 = nI n) (hn : n ≤ 16) : f_X7_noted mm (nI k) g = some (nI (cntP (fun p => decide (mm 1 (8 * p + 4) = 3 ∧ mm 1 (8 * p + 5) = nI k ∧ (g = -9 ∨ mm 1 (8 * p + 6) = g))) n)) := by
  generalize hP : (fun p => decide (mm 1 (8 * p + 4) = 3 ∧ mm 1 (8 * p + 5) = nI k ∧ (g = -9 ∨ mm 1 (8 * p + 6) = g))) = P
  have key := itr_seq (step := fun s : Int32 × Int32 => f_X7_noted_B5 mm (nI k) g s.1 s.2) (o := (nI (cntP P n), nI n)) n 2000 (fun p => (nI (cntP P p), nI p)) (by omega) ?_ ?_
  · unfold f_X7_noted
    rw [show ((0 : Int32), (0 : Int32)) = (nI (cntP P 0), nI 0) from rfl, key, Option.bind_some]
  · intro p hp
    dsimp only
    unfold f_X7_noted_B5
    rw [rd_157, Option.bind_some, hc, ifle (by omega) (by omega), if_neg (by omega), mo_4 (by omega), Option.bind_some, mo_5 (by omega), mo_6 (by omega), Option.bind_some, Option.bind_some, cntP_s, nI_1, nI_1, show (0 : Int32) = nI 0 from rfl, nI_add, Nat.add_zero]
    have hPp : P p = decide (mm 1 (8 * p + 4) = 3 ∧ mm 1 (8 * p + 5) = nI k ∧ (g = -9 ∨ mm 1 (8 * p + 6) = g)) := by rw [← hP]
    by_cases a : mm 1 (8 * p + 4) = 3
    · by_cases b : mm 1 (8 * p + 5) = nI k
      · rw [if_pos a, if_pos b, Option.bind_some, if_neg (by decide)]
        by_cases d : g = -9
        · rw [if_pos d, if_pos (by rw [hPp]; simp [a, b, d])]
        · rw [if_neg d]
          by_cases e : mm 1 (8 * p + 6) = g
          · rw [if_pos e, if_pos (by rw [hPp]; simp [a, b, e])]
          · rw [if_neg e, if_neg (by rw [hPp]; simp [d, e])]
      · rw [if_pos a, if_neg b, Option.bind_some, if_pos rfl, if_neg (by rw [hPp]; simp [b])]
    · rw [if_neg a, Option.bind_some, if_pos rfl, if_neg (by rw [hPp]; simp [a])]
  · dsimp only
    unfold f_X7_noted_B5
    rw [rd_157, Option.bind_some, hc, ifle (by omega) (by omega), if_pos (by omega)]
/-- free seats by the reference's row -/
def frM (m : Nat → Int32) (n k : Nat) : Nat := dN (m (128 + k)) - frz (fun p => m (8 * p + 4)) (fun p => m (8 * p + 5)) k n
def fgM (m : Nat → Int32) (n i : Nat) : Nat := dN (m (132 + i)) - frg (fun p => m (8 * p + 4)) (fun p => m (8 * p + 5)) (fun p => m (8 * p + 6)) (i / 4) (i % 4) n
theorem frz_le (sd nk : Nat → Int32) (k n : Nat) : frz sd nk k n ≤ n := cntP_le _ _
theorem frg_le (sd nk ng : Nat → Int32) (k g n : Nat) : frg sd nk ng k g n ≤ n := cntP_le _ _
theorem mnoted9 {mm : MM} {n k : Nat} (hc : mm 1 157 = nI n) (hn : n ≤ 16) : f_X7_noted mm (nI k) (-9) = some (nI (frz (fun p => mm 1 (8 * p + 4)) (fun p => mm 1 (8 * p + 5)) k n)) := by
  rw [mnoted hc hn]
  unfold frz
  congr 2
  exact cntP_congr n (fun i _ => by simp)
theorem mnotedg {mm : MM} {n k g : Nat} (hc : mm 1 157 = nI n) (hn : n ≤ 16) (hg : g < 4) : f_X7_noted mm (nI k) (nI g) = some (nI (frg (fun p => mm 1 (8 * p + 4)) (fun p => mm 1 (8 * p + 5)) (fun p => mm 1 (8 * p + 6)) k g n)) := by
  rw [mnoted hc hn]
  unfold frg
  congr 2
  exact cntP_congr n (fun i _ => by
    have := m9_ne (n := g) (by omega)
    simp [this])
/-- seats and reserved seats of the reference in range -/
def okSM (m : Nat → Int32) : Prop := (∀ k, k < 4 → isN (m (128 + k)) 9) ∧ ∀ i, i < 16 → isN (m (132 + i)) 5
theorem mfindFree {mm : MM} {n : Nat} (hc : mm 1 157 = nI n) (hn : n ≤ 16) (hS : okSM (mm 1)) :
    ∃ mm', f_X7_findFree mm = some mm' ∧ keeps [4, 5, 6] mm mm' ∧ (∀ k, k < 4 → mm' 4 k = nI (frM (mm 1) n k)) ∧ (∀ k, k < 4 → mm' 6 k = nI 0) ∧ ∀ i, i < 16 → mm' 5 i = nI (fgM (mm 1) n i) := by
  obtain ⟨h1, h2⟩ := hS
  unfold f_X7_findFree
  have key := itr_for (step := fun s : Int32 × MM => f_X7_findFree_B2 s.1 s.2)
    (fun k s => s.1 = nI k ∧ keeps [4, 5, 6] mm s.2 ∧ (∀ j, j < k → s.2 4 j = nI (frM (mm 1) n j)) ∧ (∀ j, j < k → s.2 6 j = nI 0) ∧ ∀ i, i < 4 * k → s.2 5 i = nI (fgM (mm 1) n i)) 4 (0, mm) (by omega) ?_ ?_ ?_
  · obtain ⟨⟨a, m'⟩, hI, h9, hk, k4, k6, k5⟩ := key
    rw [hI, Option.bind_some]
    exact ⟨m', rfl, hk, k4, k6, k5⟩
  · exact ⟨rfl, keeps.rf _ _, fun j hj => by omega, fun j hj => by omega, fun j hj => by omega⟩
  · rintro k ⟨a, m'⟩ hk4 ⟨h9, hk, k4, k6, k5⟩
    dsimp only at h9 hk k4 k5 k6
    subst h9
    dsimp only
    unfold f_X7_findFree_B2
    have e1 : m' 1 = mm 1 := hk 1 (by decide)
    have b1 := dN_bd (h1 k hk4) (by omega)
    have b2 := frz_le (fun p => mm 1 (8 * p + 4)) (fun p => mm 1 (8 * p + 5)) k n
    rw [show (4 : Int32) = nI 4 from rfl, ifle (by omega) (by omega), if_neg (by omega), rdo_128 _ hk4, Option.bind_some, e1, mnoted9 (n := n) (by rw [e1]; exact hc) hn, Option.bind_some, e1, ((h1 k hk4).eq (by omega)).1, aln (by omega) (by omega), Option.bind_some, wr_nI _ _ hk4 (by omega), Option.bind_some, u2_n _ _ (by decide), wr_nI _ _ hk4 (by omega), Option.bind_some]
    have key2 := itr_for (step := fun s : Int32 × MM => f_X7_findFree_B43 (nI k) s.1 s.2)
      (fun g s => s.1 = nI g ∧ keeps [4, 5, 6] mm s.2 ∧ (∀ j, j < k + 1 → s.2 4 j = nI (frM (mm 1) n j)) ∧ (∀ j, j < k + 1 → s.2 6 j = nI 0) ∧ ∀ i, i < 4 * k + g → s.2 5 i = nI (fgM (mm 1) n i)) 4 (0, u2 (u2 m' 4 (upd (m' 4) k (nI (dN (mm 1 (128 + k)) - frz (fun p => mm 1 (8 * p + 4)) (fun p => mm 1 (8 * p + 5)) k n)))) 6 (upd (m' 6) k 0)) (by omega) ?_ ?_ ?_
    · obtain ⟨⟨a2, m2⟩, hI, h9, hk2, k42, k62, k52⟩ := key2
      rw [hI, Option.bind_some]
      refine ⟨_, rfl, nI_1 k, hk2, k42, k62, fun i hi => k52 i (by omega)⟩
    · refine ⟨rfl, (hk.up (by decide)).up (by decide), fun j hj => ?_, fun j hj => ?_, fun i hi => ?_⟩
      · dsimp only
        rw [u2_n _ _ (by decide), u2_s]
        by_cases e : j = k
        · subst e; rw [upd_s]; rfl
        · rw [upd_n _ _ e]; exact k4 j (by omega)
      · dsimp only
        rw [u2_s]
        by_cases e : j = k
        · subst e; rw [upd_s]; rfl
        · rw [upd_n _ _ e]; exact k6 j (by omega)
      · dsimp only
        rw [u2_n _ _ (by decide), u2_n _ _ (by decide)]
        exact k5 i (by omega)
    · rintro g ⟨a2, m2⟩ hg ⟨h9, hk2, k42, k62, k52⟩
      dsimp only at h9 hk2 k42 k62 k52
      subst h9
      dsimp only
      unfold f_X7_findFree_B43
      have e2 : m2 1 = mm 1 := hk2 1 (by decide)
      have b3 := dN_bd (h2 (4 * k + g) (by omega)) (by omega)
      have b4 := frg_le (fun p => mm 1 (8 * p + 4)) (fun p => mm 1 (8 * p + 5)) (fun p => mm 1 (8 * p + 6)) k g n
      rw [show (4 : Int32) = nI 4 from rfl, ifle (by omega) (by omega), if_neg (by omega), show (132 : Int32) = nI 132 from rfl, pk_mul, nI_add, nI_add, nI_add, rd_nI _ (by omega) (by omega), Option.bind_some, e2, mnotedg (n := n) (by rw [e2]; exact hc) hn hg, Option.bind_some, e2, show 132 + 4 * k + g = 132 + (4 * k + g) by omega, ((h2 (4 * k + g) (by omega)).eq (by omega)).1, aln (by omega) (by omega), Option.bind_some, wr_nI _ _ (by omega) (by omega), Option.bind_some]
      refine ⟨_, rfl, nI_1 g, hk2.up (by decide), fun j hj => ?_, fun j hj => ?_, fun i hi => ?_⟩
      · dsimp only
        rw [u2_n _ _ (by decide)]; exact k42 j hj
      · dsimp only
        rw [u2_n _ _ (by decide)]; exact k62 j hj
      · dsimp only
        rw [u2_s]
        by_cases e : i = 4 * k + g
        · subst e
          rw [upd_s]
          unfold fgM
          rw [show (4 * k + g) / 4 = k by omega, show (4 * k + g) % 4 = g by omega]
        · rw [upd_n _ _ e]; exact k52 i (by omega)
    · rintro ⟨a2, m2⟩ ⟨h9, -⟩
      dsimp only at h9
      subst h9
      dsimp only
      unfold f_X7_findFree_B43
      rw [if_pos (by decide)]
  · rintro ⟨a2, m2⟩ ⟨h9, -⟩
    dsimp only at h9
    subst h9
    dsimp only
    unfold f_X7_findFree_B2
    rw [if_pos (by decide)]
