/-! PURE PART: the two choices side by side: what is fixed (SR), what changes (RC); the line of candidates -/
def cnB (c : Nat → Int32) (k p : Nat) : Bool := !(decide (2 < c (64 + p))) && (k == 0 || decide (c (32 + p) = nI k))
theorem cnB_iff {c : Nat → Int32} {k p : Nat} : cnB c k p = true ↔ cnC c k p := by
  unfold cnB cnC
  simp
/-- what both sides' offices have in common beside the ranking -/
def GR (c m : Nat → Int32) (n : Nat) : Prop := m 157 = nI n ∧ n ≤ 16 ∧ (∀ p, p < n → c (32 + p) = m (8 * p + 2) ∧ c (48 + p) = m (8 * p + 3) ∧ c (64 + p) = m (8 * p + 4)) ∧ (∀ k, k < 4 → c (148 + k) = m (148 + k) ∧ c (152 + k) = m (152 + k)) ∧ c 156 = m 156
/-- a ranking of n persons -/
def okR (rk : List Nat) (n : Nat) : Prop := rk.length = n ∧ rk.Nodup ∧ ∀ p, p ∈ rk ↔ p < n
def SR (c m : Nat → Int32) (n : Nat) (rk : List Nat) (fr fg : Nat → Nat) (ch mm : MM) : Prop :=
  ch 0 10 = nI n ∧ mm 1 = m ∧ (∀ r p, rk[r]? = some p → ch 2 r &&& 15 = nI p ∧ mm 3 r = nI p) ∧ (∀ k, k < 4 → ch 4 k = nI (fr k) ∧ mm 4 k = nI (fr k) ∧ fr k ≤ 9) ∧ (∀ i, i < 16 → ch 6 i = nI (fg i) ∧ mm 5 i = nI (fg i) ∧ fg i ≤ 5) ∧ ∀ k, k < 4 → ∀ i, i < 32 → (bt (ch 8 k) i = true ↔ i < n ∧ cnC c k i)
theorem SR.kp {c m : Nat → Int32} {n : Nat} {rk : List Nat} {fr fg : Nat → Nat} {ch mm ch' mm' : MM} (h : SR c m n rk fr fg ch mm) (h0 : ch' 0 10 = ch 0 10) (h1 : ∀ p ∈ [2, 4, 6, 8], ch' p = ch p) (h2 : ∀ p ∈ [1, 3, 4, 5], mm' p = mm p) : SR c m n rk fr fg ch' mm' := by
  obtain ⟨a, b, d, e, f, g⟩ := h
  refine ⟨h0.trans a, (h2 1 (by decide)).trans b, fun r p hr => ?_, fun k hk => ?_, fun i hi => ?_, fun k hk i hi => ?_⟩
  · rw [h1 2 (by decide), h2 3 (by decide)]; exact d r p hr
  · rw [h1 4 (by decide), h2 4 (by decide)]; exact e k hk
  · rw [h1 6 (by decide), h2 5 (by decide)]; exact f i hi
  · rw [h1 8 (by decide)]; exact g k hk i hi
/-- seat, group, passed on or not, on both sides -/
def RC (n : Nat) (ch mm : MM) : Prop :=
  (∀ p, p < n → ch 10 p = mm 8 p ∧ ch 12 p = mm 9 p ∧ ch 14 p = mm 10 p ∧ oN (mm 8 p) 4 ∧ ((mm 10 p = 0 ∨ mm 10 p = 1) ∧ oN (mm 9 p) 4) ∧ (bt (ch 0 11) p = true ↔ ¬ mm 8 p = -9)) ∧ ∀ i, n ≤ i → i < 32 → bt (ch 0 11) i = false
theorem RC.kp {n : Nat} {ch mm ch' mm' : MM} (h : RC n ch mm) (h0 : ch' 0 11 = ch 0 11) (h1 : ∀ p ∈ [10, 12, 14], ch' p = ch p) (h2 : ∀ p ∈ [8, 9, 10], mm' p = mm p) : RC n ch' mm' := by
  obtain ⟨a, b⟩ := h
  refine ⟨fun p hp => ?_, fun i hi h32 => ?_⟩
  · rw [h1 10 (by decide), h1 12 (by decide), h1 14 (by decide), h2 8 (by decide), h2 9 (by decide), h2 10 (by decide), h0]
    exact a p hp
  · rw [h0]; exact b i hi h32
theorem opers {cm : CM} {C r p : Nat} {ch : MM} (hr : r < 16) (h : ch 2 r &&& 15 = nI p) : f_X0_personAt (pC cm C ch) C (nI r) = some (nI p) := by
  unfold f_X0_personAt
  rw [rowget hr (by omega), pC_s, Option.bind_some]
  show some (ch 2 r &&& 15) = _
  rw [h]
theorem owithout {cm : CM} {C k : Nat} {ch : MM} (hk : k < 4) : f_X0_withoutSeat (pC cm C ch) C (nI k) = some (ch 8 k &&& (ch 0 11 ^^^ (-1))) := by
  unfold f_X0_withoutSeat
  rw [rowget hk (by omega), pC_s, Option.bind_some]
/-- who stands in the line of a kind -/
def hopB (c seat : Nat → Int32) (k p : Nat) : Bool := cnB c k p && decide (seat p = -9)
theorem hop_bt {c m : Nat → Int32} {n k p : Nat} {rk : List Nat} {fr fg : Nat → Nat} {ch mm : MM} (hs : SR c m n rk fr fg ch mm) (hr : RC n ch mm) (hk : k < 4) (hp : p < n) (hn : n ≤ 16) : (bt (ch 8 k &&& (ch 0 11 ^^^ (-1))) p = true) ↔ hopB c (mm 8) k p = true := by
  rw [bt_not (by omega), Bool.and_eq_true, hs.2.2.2.2.2 k hk p (by omega)]
  have := (hr.1 p hp).2.2.2.2.2
  unfold hopB
  rw [Bool.and_eq_true, cnB_iff, decide_eq_true_eq]
  constructor
  · rintro ⟨⟨-, h1⟩, h2⟩
    refine ⟨h1, ?_⟩
    by_cases e : mm 8 p = -9
    · exact e
    · rw [this.mpr e] at h2; simp at h2
  · rintro ⟨h1, h2⟩
    refine ⟨⟨hp, h1⟩, ?_⟩
    cases hb : bt (ch 0 11) p
    · rfl
    · exact absurd h2 (this.mp hb)
/-- the line, on both sides -/
def LR (ln : List Nat) (ch mm : MM) : Prop := ch 0 9 = nI ln.length ∧ mm 0 14 = nI ln.length ∧ ∀ i p, ln[i]? = some p → ch 16 i = nI p ∧ mm 11 i = nI p
theorem line_2 {cm : CM} {C n k : Nat} {c m : Nat → Int32} {rk : List Nat} {fr fg : Nat → Nat} {ch mm : MM} (hG : GR c m n) (hR : okR rk n) (hS : SR c m n rk fr fg ch mm) (hC : RC n ch mm) (hk : k < 4) :
    ∃ ch' mm', f_X0_lineUp (pC cm C ch) C (nI k) = some (pC cm C ch') ∧ f_X7_findCandidates mm (nI k) = some mm' ∧ keeps [0, 16] ch ch' ∧ ch' 0 10 = ch 0 10 ∧ ch' 0 11 = ch 0 11 ∧ keeps [0, 11, 12] mm mm' ∧ mm' 0 2 = mm 0 2 ∧ mm' 0 3 = mm 0 3 ∧ LR (rk.filter (hopB c (mm 8) k)) ch' mm' ∧ ∀ i, i < (rk.filter (hopB c (mm 8) k)).length → mm' 12 i = 0 := by
  obtain ⟨g1, hn, g2, -⟩ := hG
  unfold f_X0_lineUp f_X7_findCandidates
  rw [owithout hk, Option.bind_some, u3_pC', pC_s]
  have key := itr2_for (st1 := fun s : Int32 × CM => f_X0_lineUp_B13 C (ch 8 k &&& (ch 0 11 ^^^ (-1))) s.1 s.2) (st2 := fun s : Int32 × MM => f_X7_findCandidates_B7 (nI k) s.1 s.2)
    (fun r s1 s2 => s1.1 = nI r ∧ s2.1 = nI r ∧ ∃ ch', s1.2 = pC cm C ch' ∧ keeps [0, 16] ch ch' ∧ ch' 0 10 = ch 0 10 ∧ ch' 0 11 = ch 0 11 ∧ keeps [0, 11, 12] mm s2.2 ∧ s2.2 0 2 = mm 0 2 ∧ s2.2 0 3 = mm 0 3 ∧ LR ((rk.take r).filter (hopB c (mm 8) k)) ch' s2.2 ∧ ∀ i, i < ((rk.take r).filter (hopB c (mm 8) k)).length → s2.2 12 i = 0) n
    (0, pC cm C (u2 ch 0 (upd (ch 0) 9 0))) (0, u2 mm 0 (upd (mm 0) 14 0)) (by omega) ?_ ?_ ?_
  · obtain ⟨⟨a1, m1⟩, ⟨a2, m2⟩, i1, i2, -, -, ch', e1, k1, k2, k3, k4, k5, k6, k7, k8⟩ := key
    dsimp only at e1 k4 k5 k6 k7 k8
    subst e1
    rw [i1, i2, Option.bind_some, Option.bind_some]
    rw [List.take_of_length_le (by rw [hR.1]; exact Nat.le_refl _)] at k7 k8
    exact ⟨ch', m2, rfl, rfl, k1, k2, k3, k4, k5, k6, k7, k8⟩
  · refine ⟨rfl, rfl, _, rfl, (keeps.rf _ _).up (by decide), ?_, ?_, (keeps.rf _ _).up (by decide), ?_, ?_, ?_, ?_⟩
    · rw [u2_s, upd_n _ _ (by decide)]
    · rw [u2_s, upd_n _ _ (by decide)]
    · dsimp only; rw [u2_s, upd_n _ _ (by decide)]
    · dsimp only; rw [u2_s, upd_n _ _ (by decide)]
    · dsimp only
      refine ⟨?_, ?_, fun i p h => ?_⟩
      · rw [u2_s, upd_s]; rfl
      · rw [u2_s, upd_s]; rfl
      · simp at h
    · intro i hi; simp at hi
  · rintro r ⟨a1, m1⟩ ⟨a2, m2⟩ hr ⟨e1, e2, ch', e3, k1, k2, k3, k4, k5, k6, ⟨k7, k8, k9⟩, k10⟩
    dsimp only at e1 e2 e3 k4 k5 k6 k7 k8 k9 k10
    subst e1; subst e2; subst e3
    dsimp only
    obtain ⟨p, hp⟩ : ∃ p, rk[r]? = some p := ⟨rk[r]'(by rw [hR.1]; exact hr), List.getElem?_eq_getElem _⟩
    have hpn : p < n := (hR.2.2 p).mp (List.mem_of_getElem? hp)
    have hlen : ((rk.take r).filter (hopB c (mm 8) k)).length ≤ r := Nat.le_trans (List.length_filter_le _ _) (by rw [List.length_take]; omega)
    have htk : rk.take (r + 1) = rk.take r ++ [p] := by
      rw [List.take_add_one, hp]
      rfl
    have hm1 : m2 1 = m := (k4 1 (by decide)).trans hS.2.1
    obtain ⟨s1, s2⟩ := hS.2.2.1 r p hp
    obtain ⟨g21, g22, g23⟩ := g2 p hpn
    have hb := hop_bt hS hC hk hpn hn
    rw [htk, List.filter_append]
    generalize hL : (rk.take r).filter (hopB c (mm 8) k) = L at *
    by_cases hh : hopB c (mm 8) k p = true
    · have hh' := hh
      unfold hopB at hh'
      rw [Bool.and_eq_true, decide_eq_true_eq, cnB_iff] at hh'
      obtain ⟨⟨q1, q2⟩, q3⟩ := hh'
      have q4 : nI k = 0 ∨ c (32 + p) = nI k := by
        rcases q2 with q | q
        · exact Or.inl (by rw [q]; rfl)
        · exact Or.inr q
      have hcl : f_X0_lineUp_B13 C (ch 8 k &&& (ch 0 11 ^^^ (-1))) (nI r) (pC cm C ch') = some (.inr (nI (r + 1), pC cm C (u2 (u2 ch' 16 (upd (ch' 16) L.length (nI p))) 0 (upd (ch' 0) 9 (nI (L.length + 1)))))) := by
        unfold f_X0_lineUp_B13
        rw [pC_s, k2, hS.1, ifle (by omega) (by omega), if_neg (by omega), opers (by omega) (by rw [k1 2 (by decide)]; exact s1), Option.bind_some, if_pos (by rw [bt_test (by omega)]; exact hb.mpr hh), k7, rowset (by omega) (by omega), Option.bind_some, u3_pC', pC_s, pC_s, u3_pC', u2_n (p := 16) (b := 0) _ _ (by decide), k7, nI_1, nI_1]
      have hmo : f_X7_findCandidates_B7 (nI k) (nI r) m2 = some (.inr (nI (r + 1), u2 (u2 (u2 m2 11 (upd (m2 11) L.length (nI p))) 12 (upd (m2 12) L.length 0)) 0 (upd (m2 0) 14 (nI (L.length + 1))))) := by
        unfold f_X7_findCandidates_B7
        rw [rd_157, Option.bind_some, hm1, g1, ifle (by omega) (by omega), if_neg (by omega), rd_nI _ (by omega) (by omega), Option.bind_some, k4 3 (by decide), s2, mactive (by omega), Option.bind_some, hm1, ← g23, if_neg q1, if_neg (by decide), rd_nI _ (by omega) (by omega), Option.bind_some, k4 8 (by decide), if_pos q3, mcand (by omega), Option.bind_some, hm1, ← g21, if_pos q4, if_neg (by decide), k8, wr_nI _ _ (by omega) (by omega), Option.bind_some, u2_n (p := 11) (b := 12) _ _ (by decide), u2_n (p := 11) (b := 0) _ _ (by decide), k8, wr_nI _ _ (by omega) (by omega), Option.bind_some, u2_n (p := 12) (b := 0) _ _ (by decide), u2_n (p := 11) (b := 0) _ _ (by decide), k8, nI_1, nI_1]
      have hf1 : [p].filter (hopB c (mm 8) k) = [p] := by simp [hh]
      rw [hf1]
      refine ⟨_, _, hcl, hmo, rfl, rfl, _, rfl, (k1.up (by decide)).up (by decide), ?_, ?_, ((k4.up (by decide)).up (by decide)).up (by decide), ?_, ?_, ⟨?_, ?_, fun i q hq => ?_⟩, fun i hi => ?_⟩
      · rw [u2_s, upd_n _ _ (by decide)]; exact k2
      · rw [u2_s, upd_n _ _ (by decide)]; exact k3
      · dsimp only
        rw [u2_s, upd_n _ _ (by decide)]; exact k5
      · dsimp only
        rw [u2_s, upd_n _ _ (by decide)]; exact k6
      · rw [u2_s, upd_s, List.length_append]; rfl
      · dsimp only
        rw [u2_s, upd_s, List.length_append]; rfl
      · dsimp only
        rw [u2_n _ _ (by decide), u2_s, u2_n _ _ (by decide), u2_n _ _ (by decide), u2_s]
        by_cases e : i < L.length
        · rw [upd_n _ _ (by omega), upd_n _ _ (by omega)]
          rw [List.getElem?_append_left e] at hq
          exact k9 i q hq
        · rw [List.getElem?_append_right (by omega)] at hq
          have hz : i - L.length < 1 := (List.getElem?_eq_some_iff.mp hq).1
          have ei : i = L.length := by omega
          subst ei
          rw [Nat.sub_self] at hq
          have : p = q := by simpa using hq
          subst this
          rw [upd_s, upd_s]; exact ⟨rfl, rfl⟩
      · dsimp only
        rw [u2_n _ _ (by decide), u2_s]
        by_cases e : i = L.length
        · subst e; exact upd_s _ _ _
        · rw [upd_n _ _ e]
          rw [List.length_append] at hi
          have : i < L.length + 1 := hi
          exact k10 i (by omega)
    · have hf1 : [p].filter (hopB c (mm 8) k) = [] := by simp [hh]
      have hcl : f_X0_lineUp_B13 C (ch 8 k &&& (ch 0 11 ^^^ (-1))) (nI r) (pC cm C ch') = some (.inr (nI (r + 1), pC cm C ch')) := by
        unfold f_X0_lineUp_B13
        rw [pC_s, k2, hS.1, ifle (by omega) (by omega), if_neg (by omega), opers (by omega) (by rw [k1 2 (by decide)]; exact s1), Option.bind_some, if_neg (by rw [bt_test (by omega)]; exact fun q => hh (hb.mp q)), nI_1]
      have hmo : f_X7_findCandidates_B7 (nI k) (nI r) m2 = some (.inr (nI (r + 1), m2)) := by
        unfold f_X7_findCandidates_B7
        rw [rd_157, Option.bind_some, hm1, g1, ifle (by omega) (by omega), if_neg (by omega), rd_nI _ (by omega) (by omega), Option.bind_some, k4 3 (by decide), s2, mactive (by omega), Option.bind_some, hm1, ← g23, nI_1]
        by_cases q1 : 2 < c (64 + p)
        · rw [if_pos q1, if_pos rfl]
        · rw [if_neg q1, if_neg (by decide), rd_nI _ (by omega) (by omega), Option.bind_some, k4 8 (by decide)]
          by_cases q3 : mm 8 p = -9
          · rw [if_pos q3, mcand (by omega), Option.bind_some, hm1, ← g21]
            by_cases q4 : nI k = 0 ∨ c (32 + p) = nI k
            · exfalso
              refine hh ?_
              unfold hopB
              rw [Bool.and_eq_true, decide_eq_true_eq, cnB_iff]
              refine ⟨⟨q1, ?_⟩, q3⟩
              rcases q4 with q | q
              · exact Or.inl ((nI_eq (b := 0) (by omega) (by omega)).mp q)
              · exact Or.inr q
            · rw [if_neg q4, if_pos rfl]
          · rw [if_neg q3]
      rw [hf1, List.append_nil]
      exact ⟨_, _, hcl, hmo, rfl, rfl, ch', rfl, k1, k2, k3, k4, k5, k6, ⟨k7, k8, k9⟩, k10⟩
  · rintro ⟨a1, m1⟩ ⟨a2, m2⟩ ⟨e1, e2, ch', e3, k1, k2, k3, k4, -⟩
    dsimp only at e1 e2 e3 k4
    subst e1; subst e2; subst e3
    dsimp only
    unfold f_X0_lineUp_B13 f_X7_findCandidates_B7
    rw [pC_s, k2, hS.1, ifle (by omega) (by omega), if_pos (by omega), rd_157, Option.bind_some, k4 1 (by decide), hS.2.1, g1, ifle (by omega) (by omega), if_pos (by omega)]
    exact ⟨rfl, rfl⟩
