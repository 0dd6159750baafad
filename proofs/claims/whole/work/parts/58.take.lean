/-! PURE PART: taking, on both sides: the class writes a seat at once, the reference a flag first -/
theorem ohas {cm : CM} {C p : Nat} {ch : MM} (hp : p < 32) : f_X0_has (pC cm C ch) C (nI p) = some (if bt (ch 0 11) p = true then 1 else 0) := by
  unfold f_X0_has
  rw [pC_s]
  by_cases h : bt (ch 0 11) p = true
  · rw [if_pos (by rw [bt_test hp]; exact h), if_pos h]
  · rw [if_neg (by rw [bt_test hp]; exact h), if_neg h]
def tkC (ch : MM) (p k : Nat) (g : Int32) : MM := u2 (u2 (u2 ch 0 (upd (ch 0) 11 (ch 0 11 ||| (1 <<< (nI p &&& 31))))) 10 (upd (ch 10) p (nI k))) 12 (upd (ch 12) p g)
theorem otake {cm : CM} {C p k : Nat} {ch : MM} {g : Int32} (hp : p < 16) : f_X0_take (pC cm C ch) C (nI p) (nI k) g = some (pC cm C (tkC ch p k g)) := by
  unfold f_X0_take tkC
  rw [pC_s, u3_pC', rowset hp (by omega), Option.bind_some, u3_pC', pC_s, rowset hp (by omega), Option.bind_some, u3_pC', pC_s, u2_n (p := 0) (b := 10) _ _ (by decide), u2_n (p := 10) (b := 12) _ _ (by decide), u2_n (p := 0) (b := 12) _ _ (by decide)]
theorem tk_0 {ch : MM} {p k j : Nat} {g : Int32} (h : j ≠ 11) : tkC ch p k g 0 j = ch 0 j := by
  unfold tkC
  rw [u2_n _ _ (by decide), u2_n _ _ (by decide), u2_s, upd_n _ _ h]
theorem tk_bt {ch : MM} {p k i : Nat} {g : Int32} (hp : p < 32) (hi : i < 32) : bt (tkC ch p k g 0 11) i = (bt (ch 0 11) i || decide (i = p)) := by
  unfold tkC
  rw [u2_n _ _ (by decide), u2_n _ _ (by decide), u2_s, upd_s, bt_take hp hi]
theorem tk_10 {ch : MM} {p k : Nat} {g : Int32} : tkC ch p k g 10 = upd (ch 10) p (nI k) := by
  unfold tkC
  rw [u2_n _ _ (by decide), u2_s]
theorem tk_12 {ch : MM} {p k : Nat} {g : Int32} : tkC ch p k g 12 = upd (ch 12) p g := by
  unfold tkC
  rw [u2_s]
theorem tk_kp {ch : MM} {p k : Nat} {g : Int32} : keeps [0, 10, 12] ch (tkC ch p k g) := by
  unfold tkC
  exact (((keeps.rf _ _).up (by decide)).up (by decide)).up (by decide)
/-- seats (class) beside flags (reference) along the line ln of kind k -/
def TR (k n : Nat) (ln : List Nat) (ch mm : MM) : Prop :=
  (∀ i p, ln[i]? = some p → mm 8 p = -9 ∧ ((mm 12 i = 1 ∧ ch 10 p = nI k ∧ bt (ch 0 11) p = true) ∨ (mm 12 i = 0 ∧ ch 10 p = -9 ∧ bt (ch 0 11) p = false ∧ mm 9 p = -9))) ∧
  (∀ p, p < n → ch 12 p = mm 9 p ∧ ch 14 p = mm 10 p ∧ ((mm 10 p = 0 ∨ mm 10 p = 1) ∧ oN (mm 9 p) 4) ∧ (p ∉ ln → ch 10 p = mm 8 p ∧ oN (mm 8 p) 4 ∧ (bt (ch 0 11) p = true ↔ ¬ mm 8 p = -9) ∧ (mm 8 p = -9 → mm 9 p = -9))) ∧ ∀ i, n ≤ i → i < 32 → bt (ch 0 11) i = false
def TT (k n : Nat) (ln : List Nat) (ch0 mm0 ch mm : MM) : Prop := keeps [0, 10, 12, 18, 20] ch0 ch ∧ ch 0 9 = ch0 0 9 ∧ ch 0 10 = ch0 0 10 ∧ keeps [9, 12, 13, 14, 15, 16] mm0 mm ∧ TR k n ln ch mm
/-- a line: persons below n, each once -/
def okL (ln : List Nat) (n : Nat) : Prop := n ≤ 16 ∧ ln.length ≤ n ∧ ln.Nodup ∧ ∀ p ∈ ln, p < n
theorem okL_ix {ln : List Nat} {n i j p : Nat} (h : okL ln n) (hi : ln[i]? = some p) (hj : ln[j]? = some p) : i = j := by
  have h1 := (List.getElem?_eq_some_iff.mp hi).1
  exact (List.getElem?_inj h1 h.2.2.1).mp (hi.trans hj.symm)
theorem TT_take {k n i p : Nat} {ln : List Nat} {ch0 mm0 ch mm mm' : MM} {g : Int32} (hL : okL ln n) (h : TT k n ln ch0 mm0 ch mm) (hi : ln[i]? = some p) (h0 : mm 12 i = 0) (h12 : mm' 12 = upd (mm 12) i 1) (h9 : mm' 9 = upd (mm 9) p g) (hk : keeps [9, 12] mm mm') (hgo : oN g 4) : TT k n ln ch0 mm0 (tkC ch p k g) mm' := by
  obtain ⟨a1, a2, a3, a4, b1, b2, b3⟩ := h
  have hp : p < n := hL.2.2.2 p (List.mem_of_getElem? hi)
  have hn := hL.1
  have e8 : mm' 8 = mm 8 := hk 8 (by decide)
  have e10 : mm' 10 = mm 10 := hk 10 (by decide)
  have f14 : tkC ch p k g 14 = ch 14 := tk_kp 14 (by decide)
  refine ⟨a1.tr tk_kp (by decide), (tk_0 (by decide)).trans a2, (tk_0 (by decide)).trans a3, a4.tr hk (by decide), fun j q hj => ?_, fun q hq => ?_, fun j h1 h2 => ?_⟩
  · obtain ⟨c1, c2⟩ := b1 j q hj
    rw [e8, h12, h9, tk_10, tk_bt (by omega) (by have := hL.2.2.2 q (List.mem_of_getElem? hj); omega)]
    refine ⟨c1, ?_⟩
    by_cases e : j = i
    · subst e
      have : q = p := Option.some.inj (hj.symm.trans hi)
      subst this
      rw [upd_s, upd_s]
      exact Or.inl ⟨rfl, rfl, by simp⟩
    · have hqp : q ≠ p := fun q' => e (okL_ix hL (by rw [q'] at hj; exact hj) hi)
      rw [upd_n _ _ e, upd_n _ _ hqp, upd_n _ _ hqp, decide_eq_false hqp, Bool.or_false]
      exact c2
  · obtain ⟨c1, c2, c3, c4⟩ := b2 q hq
    rw [e8, e10, h9, tk_10, tk_12, f14]
    by_cases e : q = p
    · subst e
      rw [upd_s, upd_s]
      exact ⟨rfl, c2, ⟨c3.1, hgo⟩, fun q' => absurd (List.mem_of_getElem? hi) q'⟩
    · rw [upd_n _ _ e, upd_n _ _ e, upd_n _ _ e, tk_bt (by omega) (by omega), decide_eq_false e, Bool.or_false]
      exact ⟨c1, c2, c3, c4⟩
  · rw [tk_bt (by omega) h2, b3 j h1 h2, decide_eq_false (by omega)]
    rfl
/-- from the line's start -/
theorem TT_start {k n : Nat} {c : Nat → Int32} {rk : List Nat} {ch mm ch0 mm0 : MM} (hn : n ≤ 16) (hR : okR rk n) (hC : RC n ch mm) (hN : ∀ p, p < n → mm 8 p = -9 → mm 9 p = -9) (k1 : keeps [0, 16] ch ch0) (k2 : ch0 0 11 = ch 0 11) (k3 : keeps [0, 11, 12] mm mm0) (k4 : ∀ i, i < (rk.filter (hopB c (mm 8) k)).length → mm0 12 i = 0) :
    okL (rk.filter (hopB c (mm 8) k)) n ∧ TT k n (rk.filter (hopB c (mm 8) k)) ch0 mm0 ch0 mm0 := by
  obtain ⟨r1, r2⟩ := hC
  have hm : ∀ p ∈ rk.filter (hopB c (mm 8) k), p < n ∧ mm 8 p = -9 := by
    intro p hp
    obtain ⟨h1, h2⟩ := List.mem_filter.mp hp
    unfold hopB at h2
    rw [Bool.and_eq_true, decide_eq_true_eq] at h2
    exact ⟨(hR.2.2 p).mp h1, h2.2⟩
  refine ⟨⟨hn, Nat.le_trans (List.length_filter_le _ _) (by rw [hR.1]; exact Nat.le_refl _), hR.2.1.filter _, fun p hp => (hm p hp).1⟩, keeps.rf _ _, rfl, rfl, keeps.rf _ _, fun i p hi => ?_, fun p hp => ?_, fun i h1 h2 => ?_⟩
  · obtain ⟨h1, h2⟩ := hm p (List.mem_of_getElem? hi)
    obtain ⟨q1, q2, q3, q4, q5, q6⟩ := r1 p h1
    rw [k3 8 (by decide), k3 9 (by decide), k1 10 (by decide), k2]
    refine ⟨h2, Or.inr ⟨k4 i (List.getElem?_eq_some_iff.mp hi).1, q1.trans h2, ?_, hN p h1 h2⟩⟩
    cases hb : bt (ch 0 11) p
    · rfl
    · exact absurd h2 (q6.mp hb)
  · obtain ⟨q1, q2, q3, q4, q5, q6⟩ := r1 p hp
    rw [k3 8 (by decide), k3 9 (by decide), k3 10 (by decide), k1 10 (by decide), k1 12 (by decide), k1 14 (by decide), k2]
    exact ⟨q2, q3, q5, fun _ => ⟨q1, q4, q6, hN p hp⟩⟩
  · rw [k2]; exact r2 i h1 h2
theorem take_best {cm : CM} {C k n : Nat} {ln : List Nat} {ch0 mm0 ch mm : MM} {lf : Nat} (hL : okL ln n) (hf : lf ≤ 16) (l1 : LR ln ch0 mm0) (h : TT k n ln ch0 mm0 ch mm) :
    ∃ ch' mm', f_X0_takeBest (pC cm C ch) C (nI k) (nI lf) = some (pC cm C ch') ∧ f_X7_takeBest mm (nI lf) = some mm' ∧ TT k n ln ch0 mm0 ch' mm' := by
  obtain ⟨l1, l2, l3⟩ := l1
  have hn := hL.1
  have hl := hL.2.1
  unfold f_X0_takeBest f_X7_takeBest
  have key := itr2 (st1 := fun s : Int32 × Int32 × CM => f_X0_takeBest_B5 C (nI k) s.1 s.2.1 s.2.2) (st2 := fun s : Int32 × Int32 × MM => f_X7_takeBest_B4 s.1 s.2.1 s.2.2)
    (fun i s1 s2 => ∃ L ch', L ≤ 16 ∧ s1 = (nI L, nI i, pC cm C ch') ∧ s2.1 = nI L ∧ s2.2.1 = nI i ∧ TT k n ln ch0 mm0 ch' s2.2.2)
    (fun o1 o2 => ∃ ch', o1.2.2 = pC cm C ch' ∧ TT k n ln ch0 mm0 ch' o2.2.2) ln.length ?_ ?_ 2000 0 (nI lf, 0, pC cm C ch) (nI lf, 0, mm) (Nat.zero_le _) (by omega) ⟨lf, ch, hf, rfl, rfl, rfl, h⟩
  · obtain ⟨⟨a1, b1, m1⟩, ⟨a2, b2, m2⟩, i1, i2, ch', e1, e2⟩ := key
    dsimp only at e1 e2
    subst e1
    rw [i1, i2, Option.bind_some, Option.bind_some]
    exact ⟨ch', m2, rfl, rfl, e2⟩
  · rintro i s1 ⟨a2, b2, m2⟩ hi ⟨L, ch', hL16, rfl, e1, e2, hT⟩
    dsimp only at e1 e2 hT
    subst e1; subst e2
    dsimp only
    have hT' := hT
    obtain ⟨t1, t2, t3, t4, t5, t6, t7⟩ := hT
    have hp := List.getElem?_eq_getElem hi
    generalize ln[i] = p at hp
    have hpn : p < n := hL.2.2.2 p (List.mem_of_getElem? hp)
    unfold f_X0_takeBest_B5 f_X7_takeBest_B4
    by_cases hz : L = 0
    · subst hz
      refine Or.inr ⟨(nI 0, nI i, pC cm C ch'), (nI 0, nI i, m2), ?_, ?_, ch', rfl, hT'⟩
      · rw [pC_s, t2, l1, ifle (by omega) (by omega), if_neg (by omega), if_pos (by decide)]
      · rw [t4 0 (by decide), l2, ifle (by omega) (by omega), if_neg (by omega), if_pos (by decide)]
    · obtain ⟨L, rfl⟩ : ∃ M, L = M + 1 := ⟨L - 1, by omega⟩
      refine Or.inl ?_
      obtain ⟨q1, q2⟩ := t5 i p hp
      have eC : f_X4_get (pC cm C ch') C 15 16 (nI i) = some (nI p) := by
        rw [rowget (by omega) (by omega), pC_s, t1 16 (by decide), (l3 i p hp).1]
      rcases q2 with ⟨f1, f2, f3⟩ | ⟨f1, f2, f3, f4⟩
      · refine ⟨(nI (L + 1), nI (i + 1), pC cm C ch'), (nI (L + 1), nI (i + 1), m2), ?_, ?_, L + 1, ch', hL16, rfl, rfl, rfl, hT'⟩
        · rw [pC_s, t2, l1, ifle (by omega) (by omega), if_neg (by omega), if_neg (nI_nle (by omega) (by omega)), eC, Option.bind_some, ohas (by omega), f3, Option.bind_some, if_pos rfl, if_neg (by decide), nI_1]
        · rw [t4 0 (by decide), l2, ifle (by omega) (by omega), if_neg (by omega), if_neg (nI_nle (by omega) (by omega)), rd_nI _ (by omega) (by omega), Option.bind_some, f1, if_neg (by decide), nI_1]
      · refine ⟨(nI L, nI (i + 1), pC cm C (tkC ch' p k (-9))), (nI L, nI (i + 1), u2 m2 12 (upd (m2 12) i 1)), ?_, ?_, L, tkC ch' p k (-9), by omega, rfl, rfl, rfl, TT_take (g := -9) (mm' := u2 m2 12 (upd (m2 12) i 1)) hL hT' hp f1 (by rw [u2_s]) (by rw [u2_n _ _ (by decide), ← f4, upd_self]) ((keeps.rf _ _).up (by decide)) (Or.inl rfl)⟩
        · rw [pC_s, t2, l1, ifle (by omega) (by omega), if_neg (by omega), if_neg (nI_nle (by omega) (by omega)), eC, Option.bind_some, ohas (by omega), f3, Option.bind_some, if_pos (by decide), otake (by omega), Option.bind_some, nI_1, pk_m1]
        · rw [t4 0 (by decide), l2, ifle (by omega) (by omega), if_neg (by omega), if_neg (nI_nle (by omega) (by omega)), rd_nI _ (by omega) (by omega), Option.bind_some, f1, if_pos rfl, wr_nI _ _ (by omega) (by omega), Option.bind_some, nI_1, pk_m1]
  · rintro s1 ⟨a2, b2, m2⟩ ⟨L, ch', hL16, rfl, e1, e2, hT⟩
    dsimp only at e1 e2 hT
    subst e1; subst e2
    dsimp only
    unfold f_X0_takeBest_B5 f_X7_takeBest_B4
    refine ⟨(nI L, nI ln.length, pC cm C ch'), (nI L, nI ln.length, m2), ?_, ?_, ch', rfl, hT⟩
    · rw [pC_s, hT.2.1, l1, ifle (by omega) (by omega), if_pos (by omega)]
    · rw [hT.2.2.2.1 0 (by decide), l2, ifle (by omega) (by omega), if_pos (by omega)]
