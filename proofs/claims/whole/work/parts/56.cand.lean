/-! PURE PART: candidates of the class; how both begin -/
def cnC (c : Nat → Int32) (k p : Nat) : Prop := ¬ 2 < c (64 + p) ∧ (k = 0 ∨ c (32 + p) = nI k)
def okK (c : Nat → Int32) (n : Nat) : Prop := ∀ p, p < n → ∃ k, k < 4 ∧ c (32 + p) = nI k
theorem ofindCand {cm : CM} {C o n : Nat} {ch : MM} (hoC : o ≠ C) (hn : n ≤ 16) (hc : ch 0 10 = nI n) (hK : okK (cm o 1) n) :
    ∃ ch', f_X0_findCandidates (pC cm C ch) C o = some (pC cm C ch') ∧ keeps [8] ch ch' ∧ ∀ k, k < 4 → ∀ i, i < 32 → (bt (ch' 8 k) i = true ↔ i < n ∧ cnC (cm o 1) k i) := by
  unfold f_X0_findCandidates
  rw [rowfill (by omega), Option.bind_some, u3_pC', pC_s]
  have key := itr_for (step := fun s : Int32 × Int32 × CM => f_X0_findCandidates_B12 C o s.1 s.2.1 s.2.2)
    (fun p s => s.2.1 = nI p ∧ (∀ i, i < 32 → (bt s.1 i = true ↔ i < p ∧ ¬ 2 < cm o 1 (64 + i))) ∧ ∃ ch', s.2.2 = pC cm C ch' ∧ keeps [8] ch ch' ∧ ∀ k, k < 4 → ∀ i, i < 32 → (bt (ch' 8 k) i = true ↔ i < p ∧ ¬ 2 < cm o 1 (64 + i) ∧ cm o 1 (32 + i) = nI k)) n (0, 0, pC cm C (u2 ch 8 (mixf 4 (fun _ => 0) (ch 8)))) (by omega) ?_ ?_ ?_
  · obtain ⟨⟨a, b, m'⟩, hI, h9, ha, ch', h8, hk, k8⟩ := key
    dsimp only at h8 h9 ha
    subst h8
    rw [hI, Option.bind_some]
    dsimp only
    rw [show (0 : Int32) = nI 0 from rfl, rowset (by omega) (by omega), Option.bind_some, u3_pC', pC_s]
    refine ⟨_, rfl, hk.up (by decide), fun k hk4 i hi => ?_⟩
    rw [u2_s]
    by_cases e : k = 0
    · subst e
      rw [upd_s, ha i hi]
      unfold cnC
      simp
    · rw [upd_n _ _ e, k8 k hk4 i hi]
      unfold cnC
      simp [e]
  · refine ⟨rfl, fun i hi => ?_, _, rfl, (keeps.rf _ _).up (by decide), fun k hk i hi => ?_⟩
    · dsimp only
      rw [b_0]; simp
    · rw [u2_s, mix_lt _ _ hk, b_0]; simp
  · rintro p ⟨a, b, m'⟩ hp ⟨h9, ha, ch', h8, hk, k8⟩
    dsimp only at h8 h9 ha
    subst h8; subst h9
    dsimp only
    unfold f_X0_findCandidates_B12
    rw [pC_s, hk 0 (by decide), hc, ifle (by omega) (by omega), if_neg (by omega), oactive (by omega), pC_n _ _ hoC, Option.bind_some]
    by_cases h : 2 < cm o 1 (64 + p)
    · rw [if_pos h, if_pos rfl, nI_1]
      refine ⟨_, rfl, rfl, fun i hi => ?_, ch', rfl, hk, fun k hk4 i hi => ?_⟩
      · dsimp only
        rw [ha i hi]
        constructor
        · rintro ⟨q1, q2⟩; exact ⟨by omega, q2⟩
        · rintro ⟨q1, q2⟩
          refine ⟨?_, q2⟩
          rcases Nat.lt_succ_iff_lt_or_eq.mp q1 with q | q
          · exact q
          · subst q; exact absurd h q2
      · rw [k8 k hk4 i hi]
        constructor
        · rintro ⟨q1, q2⟩; exact ⟨by omega, q2⟩
        · rintro ⟨q1, q2⟩
          refine ⟨?_, q2⟩
          rcases Nat.lt_succ_iff_lt_or_eq.mp q1 with q | q
          · exact q
          · subst q; exact absurd h q2.1
    · obtain ⟨j, hj, ej⟩ := hK p hp
      rw [if_neg h, if_neg (by decide), og_32 (by omega), pC_n _ _ hoC, Option.bind_some, ej, rowget (by omega) (by omega), pC_s, Option.bind_some, rowset (by omega) (by omega), Option.bind_some, u3_pC', pC_s, nI_1]
      refine ⟨_, rfl, rfl, fun i hi => ?_, _, rfl, hk.up (by decide), fun k hk4 i hi => ?_⟩
      · dsimp only
        rw [bt_take (by omega) hi, Bool.or_eq_true, ha i hi, decide_eq_true_eq]
        constructor
        · rintro (⟨q1, q2⟩ | q)
          · exact ⟨by omega, q2⟩
          · subst q; exact ⟨by omega, h⟩
        · rintro ⟨q1, q2⟩
          rcases Nat.lt_succ_iff_lt_or_eq.mp q1 with q | q
          · exact Or.inl ⟨q, q2⟩
          · exact Or.inr q
      · rw [u2_s]
        by_cases e : k = j
        · subst e
          rw [upd_s, bt_take (by omega) hi, Bool.or_eq_true, k8 k hk4 i hi, decide_eq_true_eq]
          constructor
          · rintro (⟨q1, q2⟩ | q)
            · exact ⟨by omega, q2⟩
            · subst q; exact ⟨by omega, h, ej⟩
          · rintro ⟨q1, q2⟩
            rcases Nat.lt_succ_iff_lt_or_eq.mp q1 with q | q
            · exact Or.inl ⟨q, q2⟩
            · exact Or.inr q
        · rw [upd_n _ _ e, k8 k hk4 i hi]
          constructor
          · rintro ⟨q1, q2⟩; exact ⟨by omega, q2⟩
          · rintro ⟨q1, q2⟩
            refine ⟨?_, q2⟩
            rcases Nat.lt_succ_iff_lt_or_eq.mp q1 with q | q
            · exact q
            · subst q
              rw [ej] at q2
              exact absurd ((nI_eq (by omega) (by omega)).mp q2.2).symm e
  · rintro ⟨a, b, m'⟩ ⟨h9, ha, ch', h8, hk, k8⟩
    dsimp only at h8 h9 ha
    subst h8; subst h9
    dsimp only
    unfold f_X0_findCandidates_B12
    rw [pC_s, hk 0 (by decide), hc, ifle (by omega) (by omega), if_pos (by omega)]
/-- the reference's ranking and its clean rows -/
theorem mstart {mm : MM} {n : Nat} (hc : mm 1 157 = nI n) (hn : n ≤ 16) (h : okMT (fun p => mm 1 (8 * p)) (fun p => mm 1 (8 * p + 1)) n) :
    ∃ a mm', itr (fun s : Int32 × MM => f_X7_choose_B6 s.1 s.2) 2000 (0, mm) = some (a, mm') ∧ keeps [3, 8, 9, 10] mm mm' ∧ (∀ r p, (srt (kyM (mm 1)) n)[r]? = some p → mm' 3 r = nI p) ∧ ∀ p, p < n → mm' 8 p = -9 ∧ mm' 9 p = -9 ∧ mm' 10 p = 0 := by
  have hinj : injK (kyM (mm 1)) n := kyN_inj h hn
  generalize hpos : (fun p => cntP (fun q => decide (kyM (mm 1) q < kyM (mm 1) p)) n) = pos
  have hat : ∀ p, p < n → (srt (kyM (mm 1)) n)[pos p]? = some p := by
    intro p hp
    rw [← hpos]
    exact srt_at hinj hp
  have hlt : ∀ p, p < n → pos p < n := by
    intro p hp
    have := (List.getElem?_eq_some_iff.mp (hat p hp)).1
    rwa [srt_len] at this
  have key := itr_for (step := fun s : Int32 × MM => f_X7_choose_B6 s.1 s.2)
    (fun k s => s.1 = nI k ∧ keeps [3, 8, 9, 10] mm s.2 ∧ (∀ p, p < k → s.2 3 (pos p) = nI p) ∧ ∀ p, p < k → s.2 8 p = -9 ∧ s.2 9 p = -9 ∧ s.2 10 p = 0) n (0, mm) (by omega) ?_ ?_ ?_
  · obtain ⟨⟨a, m'⟩, hI, h9, hk, k3, k8⟩ := key
    refine ⟨a, m', hI, hk, fun r p hr => ?_, k8⟩
    have hp : p < n := srt_mem.mp (List.mem_of_getElem? hr)
    have e : r = pos p := by
      have a1 := sorted_ix (srt_sorted hinj) hr
      have a2 := sorted_ix (srt_sorted hinj) (hat p hp)
      rw [← a1, a2]
    rw [e]
    exact k3 p hp
  · exact ⟨rfl, keeps.rf _ _, fun p hp => by omega, fun p hp => by omega⟩
  · rintro k ⟨a, m'⟩ hk4 ⟨h9, hk, k3, k8⟩
    dsimp only at h9 hk k3 k8
    subst h9
    dsimp only
    unfold f_X7_choose_B6
    have e1 : m' 1 = mm 1 := hk 1 (by decide)
    have hl := hlt k hk4
    rw [rd_157, Option.bind_some, e1, hc, ifle (by omega) (by omega), if_neg (by omega), maheadOf (n := n) (by rw [e1]; exact h) (by rw [e1]; exact hc) hk4 hn, Option.bind_some, e1, show cntP (fun q => decide (kyM (mm 1) q < kyM (mm 1) k)) n = pos k by rw [← hpos], wr_nI _ _ (by omega) (by omega), Option.bind_some, u2_n _ _ (by decide), wr_nI _ _ (by omega) (by omega), Option.bind_some, u2_n _ _ (by decide), u2_n _ _ (by decide), wr_nI _ _ (by omega) (by omega), Option.bind_some, u2_n _ _ (by decide), u2_n _ _ (by decide), u2_n _ _ (by decide), wr_nI _ _ (by omega) (by omega), Option.bind_some]
    refine ⟨_, rfl, nI_1 k, (((hk.up (by decide)).up (by decide)).up (by decide)).up (by decide), fun p hp => ?_, fun p hp => ?_⟩
    · dsimp only
      rw [u2_n _ _ (by decide), u2_n _ _ (by decide), u2_n _ _ (by decide), u2_s]
      by_cases e : p = k
      · subst e; exact upd_s _ _ _
      · have hne : pos p ≠ pos k := by
          intro q
          have a1 := hat p (by omega)
          rw [q, hat k hk4] at a1
          exact e (Option.some.inj a1).symm
        rw [upd_n _ _ hne]
        exact k3 p (by omega)
    · dsimp only
      rw [u2_s, u2_n _ _ (by decide), u2_n _ _ (by decide), u2_s, u2_n _ _ (by decide), u2_s]
      by_cases e : p = k
      · subst e; rw [upd_s, upd_s, upd_s]; exact ⟨rfl, rfl, rfl⟩
      · rw [upd_n _ _ e, upd_n _ _ e, upd_n _ _ e]
        exact k8 p (by omega)
  · rintro ⟨a, m'⟩ ⟨h9, hk, -⟩
    dsimp only at h9 hk
    subst h9
    dsimp only
    unfold f_X7_choose_B6
    rw [rd_157, Option.bind_some, hk 1 (by decide), hc, ifle (by omega) (by omega), if_pos (by omega)]
