/-! PURE PART: taking in one kind, on both sides -/
theorem cntP_one {P Q : Nat → Bool} {p : Nat} (hP : P p = false) (hQ : Q p = true) : ∀ n, p < n → (∀ i, i < n → i ≠ p → Q i = P i) → cntP Q n = cntP P n + 1
  | 0, h, _ => by omega
  | n + 1, h, ho => by
    rw [cntP_s, cntP_s]
    by_cases e : p = n
    · subst e
      rw [cntP_congr p (fun i hi => ho i (by omega) (by omega)), hP, hQ]
      simp
    · rw [cntP_one hP hQ n (by omega) (fun i hi => ho i (by omega)), ho n (by omega) (by omega)]
      omega
/-- how many are taken in kind k and not passed on -/
def tkN (mm : MM) (n k : Nat) : Nat := cntP (fun p => decide (mm 8 p = nI k ∧ mm 10 p = 0)) n
def CT (n : Nat) (mm : MM) : Prop := ∀ k, k < 4 → mm 6 k = nI (tkN mm n k)
/-- without a seat: no group, not passed on; who has one takes part -/
def GN (n : Nat) (mm : MM) : Prop := (∀ p, p < n → mm 8 p = -9 → mm 9 p = -9 ∧ mm 10 p = 0) ∧ ∀ p, p < n → ¬ mm 8 p = -9 → ¬ 2 < mm 1 (8 * p + 4)
theorem CT_set {n p k : Nat} {mm mm' : MM} (h : CT n mm) (hp : p < n) (hk : k < 4) (h8 : mm 8 p = -9) (h10 : mm 10 p = 0) (e8 : mm' 8 = upd (mm 8) p (nI k)) (e6 : mm' 6 = upd (mm 6) k (mm 6 k + 1)) (e10 : mm' 10 = mm 10) : CT n mm' := by
  intro j hj
  have hj' := h j hj
  unfold tkN at hj' ⊢
  rw [e6, e8, e10]
  by_cases e : j = k
  · subst e
    rw [upd_s, hj', nI_1, cntP_one (P := fun p => decide (mm 8 p = nI j ∧ mm 10 p = 0)) (Q := fun q => decide (upd (mm 8) p (nI j) q = nI j ∧ mm 10 q = 0)) (p := p) (decide_eq_false (fun q => m9_ne (n := j) (by omega) (q.1.symm.trans h8))) (decide_eq_true ⟨upd_s _ _ _, h10⟩) n hp (fun i _ hi => by rw [upd_n _ _ hi])]
  · rw [upd_n _ _ e, hj']
    congr 1
    refine cntP_congr n (fun i _ => ?_)
    by_cases e2 : i = p
    · subst e2
      rw [upd_s, h8]
      have h1 := m9_ne' (n := j) (by omega)
      have h2 : ¬ nI k = nI j := fun q => e ((nI_eq (by omega) (by omega)).mp q).symm
      simp [h1, h2]
    · rw [upd_n _ _ e2]
theorem room2 {a b : Nat} (ha : a < 2 ^ 30) (hb : b < 2 ^ 30) : ∃ R, R ≤ a ∧ R ≤ b ∧ (if nI a < nI b then nI a else nI b) = nI R ∧ ((if nI b ≤ nI a then some (nI b) else some (nI a)) : Option Int32) = some (nI R) := by
  rw [iflt (by omega) (by omega), ifle (by omega) (by omega)]
  by_cases e : a < b
  · exact ⟨a, by omega, by omega, if_pos e, if_neg (by omega)⟩
  · exact ⟨b, by omega, by omega, if_neg e, if_pos (by omega)⟩
theorem ofreeS {cm : CM} {C k : Nat} {ch : MM} (hk : k < 4) : f_X0_freeSeats (pC cm C ch) C (nI k) = some (ch 4 k) := by
  unfold f_X0_freeSeats
  rw [rowget hk (by omega), pC_s, Option.bind_some]
/-- what each choice keeps beside what RC says -/
def okV (m : Nat → Int32) (n : Nat) : Prop := ∀ p, p < n → ∃ x, x < 16 ∧ m (8 * p + 3) = nI x
theorem take_in {cm : CM} {C o n k : Nat} {m : Nat → Int32} {rk : List Nat} {fr fg : Nat → Nat} {ch mm : MM} (hoC : o ≠ C) (hG : GR (cm o 1) m n) (hO : okV m n) (hR : okR rk n) (hS : SR (cm o 1) m n rk fr fg ch mm) (hC : RC n ch mm) (hN : GN n mm) (hT : CT n mm) (hk : k < 4) :
    ∃ ch' mm', f_X0_takeIn (pC cm C ch) C o (nI k) = some (pC cm C ch') ∧ f_X7_takeIn mm (nI k) = some mm' ∧ keeps [0, 10, 12, 16, 18, 20] ch ch' ∧ ch' 0 10 = ch 0 10 ∧ keeps [0, 6, 8, 9, 11, 12, 13, 14, 15, 16] mm mm' ∧ mm' 0 2 = mm 0 2 ∧ mm' 0 3 = mm 0 3 ∧ RC n ch' mm' ∧ GN n mm' ∧ CT n mm' ∧ ∀ j, j ≠ k → mm' 6 j = mm 6 j := by
  have hn := hG.2.1
  obtain ⟨ch1, mm1, a1, a2, a3, a4, a5, a6, a7, a8, a9, a10⟩ := line_2 (cm := cm) (C := C) hG hR hS hC hk
  obtain ⟨hL, hTT⟩ := TT_start (k := k) (c := cm o 1) hn hR hC (fun p hp h => (hN.1 p hp h).1) a3 a5 a6 a10
  have hmem : ∀ p ∈ rk.filter (hopB (cm o 1) (mm 8) k), mm 8 p = -9 := by
    intro p hp
    have := (List.mem_filter.mp hp).2
    unfold hopB at this
    rw [Bool.and_eq_true, decide_eq_true_eq] at this
    exact this.2
  have hact : ∀ p ∈ rk.filter (hopB (cm o 1) (mm 8) k), ¬ 2 < cm o 1 (64 + p) := by
    intro p hp
    have := (List.mem_filter.mp hp).2
    unfold hopB at this
    rw [Bool.and_eq_true, cnB_iff] at this
    exact this.1.1
  generalize rk.filter (hopB (cm o 1) (mm 8) k) = ln at *
  have hl := hL.2.1
  have hS1 : SR (cm o 1) m n rk fr fg ch1 mm1 := hS.kp a4 (fun p hp => a3 p (by simp at hp ⊢; omega)) (fun p hp => a6 p (by simp at hp ⊢; omega))
  obtain ⟨f1, f2, f3⟩ := hS1.2.2.2.1 k hk
  obtain ⟨R, r1, r2, r3, r4⟩ := room2 (a := ln.length) (b := fr k) (by omega) (by omega)
  have hm1 : mm1 1 = m := hS1.2.1
  have hG1 : GR (cm o 1) (mm1 1) n := by rw [hm1]; exact hG
  -- the three manners
  have hmid : ∃ ch2 mm2, (f_X0_takeIn (pC cm C ch) C o (nI k) = some (pC cm C ch2)) ∧ TT k n ln ch1 mm1 ch2 mm2 ∧ f_X7_takeIn mm (nI k) = ((itr (fun s : Int32 × MM => f_X7_takeIn_B80 (nI k) s.1 s.2) 2000 (0, mm2)).bind fun (s80_3, m80_) => some m80_) := by
    have h156 := hG.2.2.2.2
    by_cases e0 : m 156 = 0
    · obtain ⟨ch2, mm2, b1, b2, b3⟩ := take_full (cm := cm) (C := C) hk hoC hG1 (by rw [hm1]; exact hO) hL r1 (fun i hi => hS1.2.2.2.2.1 i hi) a9 hTT a10
      refine ⟨ch2, mm2, ?_, b3, ?_⟩
      · unfold f_X0_takeIn
        rw [a1, Option.bind_some, ofreeS hk, f1, Option.bind_some, og_156, pC_n _ _ hoC, Option.bind_some, h156, if_pos e0, pC_s, a9.1, r3, b1, Option.bind_some]
      · unfold f_X7_takeIn
        rw [a2, Option.bind_some, rd_nI _ hk (by omega), f2, Option.bind_some, a9.2.1, Option.bind_some, r4, Option.bind_some, rd_156, hm1, Option.bind_some, if_pos e0, b2, Option.bind_some, Option.bind_some]
    · by_cases e1 : m 156 = 1
      · obtain ⟨ch2, mm2, b1, b2, b3⟩ := take_groups (cm := cm) (C := C) hk hoC hG1 hL (show R ≤ 16 by omega) (fun i hi => hS1.2.2.2.2.1 i hi) a9 hTT
        refine ⟨ch2, mm2, ?_, b3, ?_⟩
        · unfold f_X0_takeIn
          rw [a1, Option.bind_some, ofreeS hk, f1, Option.bind_some, og_156, pC_n _ _ hoC, Option.bind_some, h156, if_neg e0, if_pos e1, pC_s, a9.1, r3, b1, Option.bind_some]
        · unfold f_X7_takeIn
          rw [a2, Option.bind_some, rd_nI _ hk (by omega), f2, Option.bind_some, a9.2.1, Option.bind_some, r4, Option.bind_some, rd_156, hm1, Option.bind_some, if_neg e0, Option.bind_some, if_pos e1, b2, Option.bind_some, Option.bind_some]
      · obtain ⟨ch2, mm2, b1, b2, b3⟩ := take_best (cm := cm) (C := C) hL (show R ≤ 16 by omega) a9 hTT
        refine ⟨ch2, mm2, ?_, b3, ?_⟩
        · unfold f_X0_takeIn
          rw [a1, Option.bind_some, ofreeS hk, f1, Option.bind_some, og_156, pC_n _ _ hoC, Option.bind_some, h156, if_neg e0, if_neg e1, pC_s, a9.1, r3, b1, Option.bind_some]
        · unfold f_X7_takeIn
          rw [a2, Option.bind_some, rd_nI _ hk (by omega), f2, Option.bind_some, a9.2.1, Option.bind_some, r4, Option.bind_some, rd_156, hm1, Option.bind_some, if_neg e0, Option.bind_some, if_neg e1, b2, Option.bind_some, Option.bind_some]
  obtain ⟨ch2, mm2, c1, ⟨t1, t2, t3, t4, t5, t6, t7⟩, c2⟩ := hmid
  have u8 : mm2 8 = mm 8 := (t4 8 (by decide)).trans (a6 8 (by decide))
  have u10 : mm2 10 = mm 10 := (t4 10 (by decide)).trans (a6 10 (by decide))
  have u6 : mm2 6 = mm 6 := (t4 6 (by decide)).trans (a6 6 (by decide))
  have hCT2 : CT n mm2 := by
    intro j hj
    have := hT j hj
    unfold tkN at this ⊢
    rw [u6, u8, u10]
    exact this
  -- the reference's last loop
  have key := itr_for (step := fun s : Int32 × MM => f_X7_takeIn_B80 (nI k) s.1 s.2)
    (fun i s => s.1 = nI i ∧ keeps [6, 8] mm2 s.2 ∧ CT n s.2 ∧ (∀ j, j ≠ k → s.2 6 j = mm2 6 j) ∧ (∀ p, p < n → p ∉ ln → s.2 8 p = mm2 8 p) ∧ (∀ j p, ln[j]? = some p → s.2 8 p = if j < i then ch2 10 p else -9)) ln.length (0, mm2) (by omega) ⟨rfl, keeps.rf _ _, hCT2, fun _ _ => rfl, fun _ _ _ => rfl, fun j p hj => by rw [if_neg (by omega)]; exact (t5 j p hj).1⟩ ?_ ?_
  · obtain ⟨⟨a, m3⟩, hI, -, k1, k2, k3, k4, k5⟩ := key
    dsimp only at k1 k2 k3 k4 k5
    have hsk : ∀ p, p < n → m3 8 p = ch2 10 p := by
      intro p hp
      by_cases hm : p ∈ ln
      · obtain ⟨j, hj⟩ := List.getElem?_of_mem hm
        rw [k5 j p hj, if_pos (List.getElem?_eq_some_iff.mp hj).1]
      · rw [k4 p hp hm, ((t6 p hp).2.2.2 hm).1]
    have hk3 : ∀ q, q ∉ [0, 6, 8, 9, 11, 12, 13, 14, 15, 16] → m3 q = mm q := by
      intro q hq
      simp at hq
      rw [k1 q (by simp; omega), t4 q (by simp; omega), a6 q (by simp; omega)]
    refine ⟨ch2, m3, c1, by rw [c2, hI, Option.bind_some], fun q hq => ?_, by rw [t3, a4], hk3, ?_, ?_, ⟨fun p hp => ?_, t7⟩, ⟨fun p hp h9 => ?_, fun p hp h9 => ?_⟩, k2, fun j hj => by rw [k3 j hj, u6]⟩
    · simp at hq
      rw [t1 q (by simp; omega), a3 q (by simp; omega)]
    · rw [k1 0 (by decide), t4 0 (by decide), a7]
    · rw [k1 0 (by decide), t4 0 (by decide), a8]
    · obtain ⟨w1, w2, w3, w4⟩ := t6 p hp
      rw [k1 9 (by decide), k1 10 (by decide), hsk p hp]
      refine ⟨rfl, w1, w2, ?_⟩
      by_cases hm : p ∈ ln
      · obtain ⟨j, hj⟩ := List.getElem?_of_mem hm
        rcases (t5 j p hj).2 with ⟨-, x1, x2⟩ | ⟨-, x1, x2, -⟩
        · rw [x1, x2]
          exact ⟨Or.inr ⟨k, hk, rfl⟩, w3, by simp [m9_ne (n := k) (by omega)]⟩
        · rw [x1, x2]
          exact ⟨Or.inl rfl, w3, by simp⟩
      · obtain ⟨x1, x2, x3, -⟩ := w4 hm
        rw [x1]
        exact ⟨x2, w3, x3⟩
    · rw [hsk p hp] at h9
      rw [k1 9 (by decide), k1 10 (by decide), u10]
      by_cases hm : p ∈ ln
      · obtain ⟨j, hj⟩ := List.getElem?_of_mem hm
        refine ⟨?_, (hN.1 p hp (hmem p hm)).2⟩
        rcases (t5 j p hj).2 with ⟨-, x1, -⟩ | ⟨-, -, -, x1⟩
        · exact absurd (x1.symm.trans h9) (m9_ne (by omega))
        · exact x1
      · obtain ⟨x1, -, -, x4⟩ := (t6 p hp).2.2.2 hm
        rw [x1] at h9
        exact ⟨x4 h9, (hN.1 p hp (by rw [← u8]; exact h9)).2⟩
    · rw [hk3 1 (by decide), hS.2.1]
      rw [hsk p hp] at h9
      by_cases hm : p ∈ ln
      · rw [← (hG.2.2.1 p hp).2.2]
        exact hact p hm
      · rw [((t6 p hp).2.2.2 hm).1, u8] at h9
        have := hN.2 p hp h9
        rw [hS.2.1] at this
        exact this
  · rintro i ⟨a, m3⟩ hi ⟨h9, k1, k2, k3, k4, k5⟩
    dsimp only at h9 k1 k2 k3 k4 k5
    subst h9
    dsimp only
    have hp := List.getElem?_eq_getElem hi
    generalize ln[i] = p at hp
    have hpn : p < n := hL.2.2.2 p (List.mem_of_getElem? hp)
    have hpl : p ∈ ln := List.mem_of_getElem? hp
    have l2 : m3 0 14 = nI ln.length := by rw [k1 0 (by decide), t4 0 (by decide)]; exact a9.2.1
    have e11 : m3 11 i = nI p := by rw [k1 11 (by decide), t4 11 (by decide)]; exact (a9.2.2 i p hp).2
    have e12 : m3 12 = mm2 12 := k1 12 (by decide)
    have hnew : ∀ (f : Nat → Int32), (∀ q, q ≠ p → f q = m3 8 q) → f p = ch2 10 p → ∀ j q, ln[j]? = some q → f q = if j < i + 1 then ch2 10 q else -9 := by
      intro f hf1 hf2 j q hj
      by_cases e : j = i
      · subst e
        have : q = p := Option.some.inj (hj.symm.trans hp)
        subst this
        rw [if_pos (by omega), hf2]
      · have hqp : q ≠ p := fun q' => e (okL_ix hL (by rw [q'] at hj; exact hj) hp)
        rw [hf1 q hqp, k5 j q hj]
        by_cases e2 : j < i
        · rw [if_pos e2, if_pos (by omega)]
        · rw [if_neg e2, if_neg (by omega)]
    unfold f_X7_takeIn_B80
    have hs0 : m3 8 p = -9 := by rw [k5 i p hp, if_neg (by omega)]
    rcases (t5 i p hp).2 with ⟨x0, x1, x2⟩ | ⟨x0, x1, x2, -⟩
    · refine ⟨(nI (i + 1), u2 (u2 m3 8 (upd (m3 8) p (nI k))) 6 (upd (m3 6) k (m3 6 k + 1))), ?_, rfl, (k1.up (by decide)).up (by decide), ?_, fun j hj => ?_, fun q hq hql => ?_, hnew _ (fun q hq => ?_) ?_⟩
      · rw [l2, ifle (by omega) (by omega), if_neg (by omega), rd_nI _ (by omega) (by omega), e12, x0, Option.bind_some, if_neg (by decide), rd_nI _ (by omega) (by omega), e11, Option.bind_some, wr_nI _ _ (by omega) (by omega), Option.bind_some, u2_n (p := 8) (b := 6) _ _ (by decide), rd_nI _ hk (by omega), Option.bind_some, wr_nI _ _ hk (by omega), Option.bind_some, nI_1]
      · refine CT_set (p := p) k2 hpn hk hs0 ?_ ?_ ?_ ?_
        · rw [k1 10 (by decide), u10]
          exact (hN.1 p hpn (hmem p hpl)).2
        · dsimp only
          rw [u2_n _ _ (by decide), u2_s]
        · dsimp only
          rw [u2_s]
        · dsimp only
          rw [u2_n _ _ (by decide), u2_n _ _ (by decide)]
      · dsimp only
        rw [u2_s, upd_n _ _ hj]; exact k3 j hj
      · dsimp only
        rw [u2_n _ _ (by decide), u2_s, upd_n _ _ (fun e => hql (by rw [e]; exact hpl))]; exact k4 q hq hql
      · dsimp only
        rw [u2_n _ _ (by decide), u2_s, upd_n _ _ hq]
      · dsimp only
        rw [u2_n _ _ (by decide), u2_s, upd_s, x1]
    · refine ⟨(nI (i + 1), m3), ?_, rfl, k1, k2, k3, k4, hnew _ (fun q hq => rfl) ?_⟩
      · rw [l2, ifle (by omega) (by omega), if_neg (by omega), rd_nI _ (by omega) (by omega), e12, x0, Option.bind_some, if_pos rfl, nI_1]
      · dsimp only
        rw [hs0, x1]
  · rintro ⟨a, m3⟩ ⟨h9, k1, -⟩
    dsimp only at h9 k1
    subst h9
    dsimp only
    unfold f_X7_takeIn_B80
    rw [k1 0 (by decide), t4 0 (by decide), a9.2.1, ifle (by omega) (by omega), if_pos (by omega)]
