/-! PURE PART: ofKind -/
theorem ocountTo {cm : CM} {C n k : Nat} {B : Nat → Bool} (x : Int32) (hn : n ≤ 16) (hc : cm C 0 10 = nI n) (hB : ∀ p, p < n → ((cm C 10 p = nI k ∧ cm C 14 p = 0) ↔ B p = true)) : f_X0_countTo cm C (nI k) x = some (nI (cntP (fun p => B p && decide (cm C 12 p = x)) n)) := by
  unfold f_X0_countTo
  rw [itr_cnt (fun p => B p && decide (cm C 12 p = x)) n (by omega) ?_ ?_, Option.bind_some]
  · intro i c hi _
    dsimp only
    unfold f_X0_countTo_B5 f_X0_groupOf
    rw [hc, ifle (by omega) (by omega), if_neg (by omega), oisTaken' (by omega), Option.bind_some, if10, nI_1, nI_1]
    by_cases hb : B i = true
    · rw [if_pos ((hB i hi).mpr hb), rowget (by omega) (by omega), Option.bind_some, Option.bind_some]
      by_cases h : cm C 12 i = x
      · rw [if_pos h, if_pos (by rw [hb, decide_eq_true h]; rfl)]
      · rw [if_neg h, if_neg (by rw [hb, decide_eq_false h]; decide)]; rfl
    · rw [if_neg (fun q => hb ((hB i hi).mp q)), if_neg (by simp [hb])]; rfl
  · intro c
    dsimp only
    unfold f_X0_countTo_B5
    rw [hc, ifle (by omega) (by omega), if_pos (by omega)]
theorem one_g : ∀ j, j < 4 → (if nI j = nI 0 then 1 else 0) + (if nI j = nI 1 then 1 else 0) + (if nI j = nI 2 then 1 else 0) + (if nI j = nI 3 then 1 else 0) = 1 := by decide +kernel
theorem sum_g {B : Nat → Bool} {G : Nat → Int32} : ∀ n, (∀ p, p < n → oN (G p) 4) → cntP (fun p => B p && decide (G p = nI 0)) n + cntP (fun p => B p && decide (G p = nI 1)) n + cntP (fun p => B p && decide (G p = nI 2)) n + cntP (fun p => B p && decide (G p = nI 3)) n = cntP (fun p => B p && decide (¬ G p = -9)) n
  | 0, _ => rfl
  | n + 1, h => by
    have ih := sum_g (B := B) n (fun p hp => h p (by omega))
    rw [cntP_s, cntP_s, cntP_s, cntP_s, cntP_s]
    cases hb : B n
    · simp only [Bool.false_and, Bool.false_eq_true, if_false, Nat.add_zero]; exact ih
    · simp only [Bool.true_and, decide_eq_true_eq]
      rcases h n (by omega) with e | ⟨j, hj, e⟩
      · rw [e, if_neg (m9_ne' (by omega)), if_neg (m9_ne' (by omega)), if_neg (m9_ne' (by omega)), if_neg (m9_ne' (by omega)), if_neg (by decide)]
        exact ih
      · have := one_g j hj
        rw [e, if_pos (m9_ne (by omega))]
        omega
theorem ocountCounted {cm : CM} {C n k : Nat} {B : Nat → Bool} (hk : k < 4) (hn : n ≤ 16) (hc : cm C 0 10 = nI n) (hB : ∀ p, p < n → ((cm C 10 p = nI k ∧ cm C 14 p = 0) ↔ B p = true)) (hG : ∀ p, p < n → oN (cm C 12 p) 4) : f_X0_countCountedIn cm C (nI k) = some (nI (cntP (fun p => B p && decide (¬ cm C 12 p = -9)) n)) := by
  unfold f_X0_countCountedIn
  have key := itr_seq (step := fun s : Int32 × Int32 => f_X0_countCountedIn_B4 cm C (nI k) s.1 s.2) (o := (nI (cntP (fun p => B p && decide (cm C 12 p = nI 0)) n + cntP (fun p => B p && decide (cm C 12 p = nI 1)) n + cntP (fun p => B p && decide (cm C 12 p = nI 2)) n + cntP (fun p => B p && decide (cm C 12 p = nI 3)) n), nI 4)) 4 2000 (fun g => (nI ((if 0 < g then cntP (fun p => B p && decide (cm C 12 p = nI 0)) n else 0) + (if 1 < g then cntP (fun p => B p && decide (cm C 12 p = nI 1)) n else 0) + (if 2 < g then cntP (fun p => B p && decide (cm C 12 p = nI 2)) n else 0) + (if 3 < g then cntP (fun p => B p && decide (cm C 12 p = nI 3)) n else 0)), nI g)) (by omega) ?_ ?_
  · rw [show ((0 : Int32), (0 : Int32)) = (nI ((if 0 < 0 then cntP (fun p => B p && decide (cm C 12 p = nI 0)) n else 0) + (if 1 < 0 then cntP (fun p => B p && decide (cm C 12 p = nI 1)) n else 0) + (if 2 < 0 then cntP (fun p => B p && decide (cm C 12 p = nI 2)) n else 0) + (if 3 < 0 then cntP (fun p => B p && decide (cm C 12 p = nI 3)) n else 0)), nI 0) from rfl, key, Option.bind_some, sum_g n hG]
  · intro g hg
    dsimp only
    unfold f_X0_countCountedIn_B4
    rw [show (4 : Int32) = nI 4 from rfl, ifle (by omega) (by omega), if_neg (by omega), ocountTo (nI g) hn hc hB, Option.bind_some, nI_add, nI_1]
    rcases g with _ | _ | _ | _ | g
    · simp
    · simp
    · simp
    · simp
    · omega
  · dsimp only
    unfold f_X0_countCountedIn_B4
    rw [if_pos (by decide)]
    simp
theorem mcountedIn {mm : MM} {n k : Nat} (x : Int32) (hn : n ≤ 16) (hc : mm 1 157 = nI n) : f_X7_countedIn mm (nI k) x = some (nI (cntP (fun p => tkB mm k p && decide (¬ mm 9 p = -9) && decide (x = -9 ∨ mm 9 p = x)) n)) := by
  unfold f_X7_countedIn
  rw [itr_cnt (fun p => tkB mm k p && decide (¬ mm 9 p = -9) && decide (x = -9 ∨ mm 9 p = x)) n (by omega) ?_ ?_, Option.bind_some]
  · intro i c hi _
    dsimp only
    unfold f_X7_countedIn_B5
    have hb := tkB_m (mm := mm) (k := k) i
    rw [rd_157, hc, Option.bind_some, ifle (by omega) (by omega), if_neg (by omega), misTaken (by omega), Option.bind_some, if10, nI_1, nI_1, Int32.add_zero]
    by_cases h1 : tkB mm k i = true
    · rw [if_pos (hb.mpr h1), rd_nI _ (by omega) (by omega), Option.bind_some]
      by_cases h2 : mm 9 i = -9
      · rw [if_pos h2, Option.bind_some, i00, if_neg (by simp [h2])]; rfl
      · rw [if_neg h2, Option.bind_some, i10, Option.bind_some]
        by_cases h3 : x = -9
        · rw [if_pos h3, if_pos (by simp [h1, h2, h3])]
        · rw [if_neg h3]
          by_cases h4 : mm 9 i = x
          · rw [if_pos h4, if_pos (by rw [h1, decide_eq_true h2, decide_eq_true (Or.inr h4)]; rfl)]
          · rw [if_neg h4, if_neg (by rw [h1, decide_eq_true h2, decide_eq_false (fun q => q.elim h3 h4)]; decide)]; rfl
    · rw [if_neg (fun q => h1 (hb.mp q)), Option.bind_some, i00, if_neg (by simp [h1])]; rfl
  · intro c
    dsimp only
    unfold f_X7_countedIn_B5
    rw [rd_157, hc, Option.bind_some, ifle (by omega) (by omega), if_pos (by omega)]
theorem ocountSeated {cm : CM} {C n : Nat} {x : Int32} (hn : n ≤ 16) (hc : cm C 0 10 = nI n) : f_X0_countSeated cm C x = some (nI (cntP (fun p => decide (cm C 10 p = x)) n)) := by
  unfold f_X0_countSeated
  rw [itr_cnt (fun p => decide (cm C 10 p = x)) n (by omega) ?_ ?_, Option.bind_some]
  · intro i c hi _
    dsimp only
    unfold f_X0_countSeated_B4 f_X0_seatOf
    rw [hc, ifle (by omega) (by omega), if_neg (by omega), rowget (by omega) (by omega), Option.bind_some, Option.bind_some, nI_1, nI_1]
    by_cases h : cm C 10 i = x
    · rw [if_pos h, if_pos (decide_eq_true h)]
    · rw [if_neg h, if_neg (by rw [decide_eq_true_eq]; exact h)]; rfl
  · intro c
    dsimp only
    unfold f_X0_countSeated_B4
    rw [hc, ifle (by omega) (by omega), if_pos (by omega)]
/-- the fill of a kind, on both sides -/
theorem fill_2 {cm : CM} {C o n k : Nat} {m : Nat → Int32} {rk : List Nat} {fr fg : Nat → Nat} {mm : MM} (hoC : o ≠ C) (hG : GR (cm o 1) m n) (hS : SR (cm o 1) m n rk fr fg (cm C) mm) (hW : RW n (cm C) mm) (hk : k < 4) :
    ∃ ch' mm', f_X0_tallyTaken cm C o (nI k) = some (pC cm C ch') ∧ f_X5_fill (pC cm C ch') C = some (nI (fil (fun p => m (8 * p + 3)) (fun s => rsS (fun g => fg (4 * k + g)) s 4) ((List.range n).filter (tkB mm k)))) ∧ keeps [18, 20] (cm C) ch' ∧ f_X7_fillOf mm (nI k) = some (nI (fil (fun p => m (8 * p + 3)) (fun s => rsS (fun g => fg (4 * k + g)) s 4) ((List.range n).filter (tkB mm k))), mm') ∧ keeps [13, 14, 16] mm mm' ∧ TLc (fun p => m (8 * p + 3)) (fun g => fg (4 * k + g)) ((List.range n).filter (tkB mm k)) ch' ∧ TLm (fun p => m (8 * p + 3)) (fun g => fg (4 * k + g)) ((List.range n).filter (tkB mm k)) mm' ∧ f5 (fun g => fg (4 * k + g)) := by
  have hn := hG.2.1
  have hm1 := hS.2.1
  have hf5 : f5 (fun g => fg (4 * k + g)) := fun g hg => (hS.2.2.2.2.1 _ (by omega)).2.2
  obtain ⟨ch1, a1, a2, a3⟩ := otally (cm := cm) (C := C) (o := o) (ch := cm C) (gs := fun p => m (8 * p + 3)) (f := fun g => fg (4 * k + g)) hoC hk hn hS.1 (fun g hg => (hS.2.2.2.2.1 _ (by omega)).1) (fun p hp => (hG.2.2.1 p hp).2.1) (tkB_w (k := k) hW)
  rw [pC_self] at a1
  obtain ⟨m1, m2, m3, b1, b2, b3, b4, b5⟩ := mbegin (mm := mm) (gs := fun p => m (8 * p + 3)) (f := fun g => fg (4 * k + g)) hk (fun g hg => (hS.2.2.2.2.1 _ (by omega)).2.1)
  obtain ⟨x, m4, c1, c2, c3⟩ := mtally_p (mm := m3) (k := k) (B := tkB mm k) hn (by rw [b4 1 (by decide), hm1]; exact hG.1) (fun p _ => by rw [b4 1 (by decide), hm1]) (fun p _ => by rw [b4 8 (by decide), b4 10 (by decide)]; exact tkB_m p) b5
  have hlen : ((List.range n).filter (tkB mm k)).length ≤ 16 := len_fil (by rw [List.length_range]; exact hn)
  refine ⟨ch1, m4, a1, TLc_fill hf5 hlen a3, a2, ?_, b4.tr c2 (by decide), a3, c3, hf5⟩
  unfold f_X7_fillOf
  rw [b1, Option.bind_some, b2, Option.bind_some, b3, Option.bind_some, c1, Option.bind_some]
  dsimp only
  rw [TLm_cut hf5 hlen c3.1 c3.2.1, Option.bind_some]
/-! the mark of the last one -/
def lastM (m : Nat → Int32) (l : List Nat) : Int32 := match l.getLast? with | none => -9 | some p => m (8 * p)
theorem mworst {mm : MM} {n k : Nat} {rk : List Nat} (hn : n ≤ 16) (hR : okR rk n) (hc : mm 1 157 = nI n) (h2 : ∀ r p, rk[r]? = some p → mm 3 r = nI p) : f_X7_worstMark mm (nI k) = some (lastM (mm 1) (rk.filter (tkB mm k))) := by
  have key := itr_seq (step := fun s : Int32 × Int32 => f_X7_worstMark_B5 mm (nI k) s.1 s.2) (o := (lastM (mm 1) ((rk.take n).filter (tkB mm k)), nI n)) n 2000 (fun r => (lastM (mm 1) ((rk.take r).filter (tkB mm k)), nI r)) (by omega) ?_ ?_
  · unfold f_X7_worstMark
    rw [show (((-9) : Int32), (0 : Int32)) = (lastM (mm 1) ((rk.take 0).filter (tkB mm k)), nI 0) from rfl, key, Option.bind_some, List.take_of_length_le (by rw [hR.1]; exact Nat.le_refl _)]
  · intro r hr
    dsimp only
    obtain ⟨p, hp⟩ : ∃ p, rk[r]? = some p := ⟨rk[r]'(by rw [hR.1]; exact hr), List.getElem?_eq_getElem _⟩
    have hpn : p < n := (hR.2.2 p).mp (List.mem_of_getElem? hp)
    have hb := tkB_m (mm := mm) (k := k) p
    unfold f_X7_worstMark_B5
    rw [rd_157, hc, Option.bind_some, ifle (by omega) (by omega), if_neg (by omega), rd_nI _ (by omega) (by omega), h2 r p hp, Option.bind_some, misTaken (by omega), Option.bind_some, if10, Option.bind_some, mo_0 (by omega), Option.bind_some, nI_1, List.take_add_one, hp, Option.toList_some, List.filter_append]
    by_cases h : tkB mm k p = true
    · rw [if_pos (hb.mpr h), show [p].filter (tkB mm k) = [p] by simp [h]]
      unfold lastM
      rw [List.getLast?_append]
      rfl
    · rw [if_neg (fun q => h (hb.mp q)), show [p].filter (tkB mm k) = [] by simp [h], List.append_nil]
  · dsimp only
    unfold f_X7_worstMark_B5
    rw [rd_157, hc, Option.bind_some, ifle (by omega) (by omega), if_pos (by omega)]
theorem tkAt_fil {B : Nat → Bool} {k : Nat} (hk : k < 2 ^ 20) : ∀ (l : List Nat) (cnt : Nat), cnt ≤ k → l.length < 2 ^ 20 → cnt < 2 ^ 20 → tkAt B (nI k) l cnt = match (l.filter B)[k - cnt]? with | none => -9 | some p => nI p
  | [], cnt, _, _, _ => rfl
  | p :: l, cnt, h, hl, hc => by
    rw [List.length_cons] at hl
    rw [tkAt_cons, List.filter_cons]
    by_cases hb : B p = true
    · rw [if_pos hb, if_pos hb, ifeq (by omega) (by omega)]
      by_cases e : cnt = k
      · subst e
        rw [if_pos rfl, Nat.sub_self]
        rfl
      · rw [if_neg e, tkAt_fil hk l (cnt + 1) (by omega) (by omega) (by omega), show k - cnt = k - (cnt + 1) + 1 by omega, List.getElem?_cons_succ]
    · rw [if_neg hb, if_neg hb]
      exact tkAt_fil hk l cnt h (by omega) hc
theorem tkAt_none {B : Nat → Bool} {x : Int32} : ∀ (l : List Nat) (cnt : Nat), l.filter B = [] → tkAt B x l cnt = -9
  | [], _, _ => rfl
  | p :: l, cnt, h => by
    rw [List.filter_cons] at h
    rw [tkAt_cons]
    by_cases hb : B p = true
    · rw [if_pos hb] at h; cases h
    · rw [if_neg hb] at h ⊢
      exact tkAt_none l cnt h
theorem oworst {cm : CM} {mm : MM} {n k : Nat} {rk : List Nat} {m : Nat → Int32} (hn : n ≤ 16) (hR : okR rk n) (l : lay (cm 1 1) m) (hc : cm 27 0 10 = nI n) (h2 : ∀ r p, rk[r]? = some p → cm 27 2 r &&& 15 = nI p) (hW : RW n (cm 27) mm) : f_X6_worstMark cm 27 (nI k) = some (lastM m (rk.filter (tkB mm k))) := by
  have hB := tkB_w (k := k) hW
  have hT : cntP (fun p => decide (cm 27 10 p = nI k ∧ cm 27 14 p = 0)) n = (rk.filter (tkB mm k)).length := by
    rw [← List.countP_eq_length_filter, (okR_perm hR).countP_eq, cntP_range]
    refine cntP_congr n (fun i hi => ?_)
    have := hB i hi
    by_cases e : tkB mm k i = true
    · rw [e]; exact decide_eq_true (this.mpr e)
    · rw [show tkB mm k i = false by simpa using e]; exact decide_eq_false (fun q => e (this.mp q))
  have hlen : (rk.filter (tkB mm k)).length ≤ 16 := len_fil (by rw [hR.1]; exact hn)
  unfold f_X6_worstMark
  rw [ocountTaken' hn hc, hT, Option.bind_some]
  cases hL : rk.filter (tkB mm k) with
  | nil =>
    rw [otakenAt _ hn hR hc h2 hB, tkAt_none _ _ hL, Option.bind_some, if_pos rfl]
    rfl
  | cons a as =>
    rw [List.length_cons, nI_pred, otakenAt _ hn hR hc h2 hB, Option.bind_some]
    have hla : as.length + 1 ≤ 16 := by rw [hL, List.length_cons] at hlen; exact hlen
    have hg : (a :: as)[as.length]? = (a :: as).getLast? := by rw [List.getLast?_eq_getElem?]; rfl
    rw [tkAt_fil (by omega) rk 0 (by omega) (by rw [hR.1]; omega) (by omega), hL, Nat.sub_zero, hg]
    unfold lastM
    cases hq : (a :: as).getLast? with
    | none => simp at hq
    | some p =>
      have hpm : p ∈ rk := (List.mem_filter.mp (by rw [hL]; exact List.mem_of_getLast? hq)).1
      have hpn : p < n := (hR.2.2 p).mp hpm
      dsimp only
      rw [if_neg (m9_ne (by omega)), og_0 (by omega), Option.bind_some, ly_0 l (by omega)]
/-- what the reference answers once it has chosen -/
theorem kind_2 {cm : CM} {mm mm2 : MM} {n k v : Nat} (hI : INV cm mm) (l : lay (cm 1 1) (mm 1)) (V : VM (mm 1) n) (d2 : CHM (cm 1 1) (mm 1) n (cm 27) mm2) (d3 : KM mm mm2) (hk : k < 4) (hv : v ≤ 5 ∨ (10 ≤ v ∧ v ≤ 13) ∨ (20 ≤ v ∧ v ≤ 23)) :
    EQ2 ((f_X6_isGroup (nI v - 10)).bind fun x18 =>
    if x18 = 0 then
      (f_X6_isGroup (nI v - 20)).bind fun x38 =>
      if x38 = 0 then
        if nI v = 0 then
          (f_X0_freeSeats cm 27 (nI k)).bind fun x94 =>
          some (x94, cm)
        else
        if nI v = 1 then
          (f_X0_countTaken cm 27 (nI k)).bind fun x100 =>
          some (x100, cm)
        else
        if nI v = 2 then
          (f_X0_countCountedIn cm 27 (nI k)).bind fun x106 =>
          some (x106, cm)
        else
        if nI v = 3 then
          (f_X0_freeSeats cm 27 (nI k)).bind fun x112 =>
          (f_X0_countSeated cm 27 (nI k)).bind fun x117 =>
          some (x112 - x117, cm)
        else
        if nI v = 4 then
          (f_X6_worstMark cm 27 (nI k)).bind fun x125 =>
          some (x125, cm)
        else
        if nI v = 5 then
          (f_X0_fillOf cm 27 1 (nI k)).bind fun r135 =>
          some (r135.1, r135.2)
        else
        some ((-2), cm)
      else
        (f_X0_countTo cm 27 (nI k) (nI v - 20)).bind fun x50 =>
        some (x50, cm)
    else
      (f_X0_freeReserved cm 27 (nI k) (nI v - 10)).bind fun x30 =>
      some (x30, cm))
    (if nI v = 0 then
        (rd 4 (mm2 4) (nI k)).bind fun x93 =>
        some (x93, mm2)
      else
      if nI v = 1 then
        (rd 4 (mm2 6) (nI k)).bind fun x100 =>
        some (x100, mm2)
      else
      if nI v = 2 then
        (f_X7_countedIn mm2 (nI k) (-9)).bind fun x106 =>
        some (x106, mm2)
      else
      if nI v = 3 then
        (rd 4 (mm2 7) (nI k)).bind fun x115 =>
        some (x115, mm2)
      else
      if nI v = 4 then
        (f_X7_worstMark mm2 (nI k)).bind fun x119 =>
        some (x119, mm2)
      else
      if nI v = 5 then
        (f_X7_fillOf mm2 (nI k)).bind fun r125 =>
        some (r125.1, r125.2)
      else
      if 20 ≤ nI v then
        (f_X7_countedIn mm2 (nI k) (nI v - 20)).bind fun x157 =>
        some (x157, mm2)
      else
        (rd 16 (mm2 5) (((4 * nI k) + nI v) - 10)).bind fun x147 =>
        some (x147, mm2)) := by
  have hn := V.2.1
  obtain ⟨s1, s2, s3, s4, s5⟩ := d2.w.out
  have hRC := d2.1.2.1
  have e157 : mm2 1 157 = nI n := by rw [s1.2.1]; exact V.1
  have hB := tkB_w (k := k) s2
  have hfin := hI.km d3
  obtain ⟨f1, f2, f3⟩ := s1.2.2.2.1 k hk
  have hGo : ∀ p, p < n → oN (cm 27 12 p) 4 := fun p hp => by
    obtain ⟨-, r2, -, -, r5, -⟩ := hRC.1 p hp
    rw [r2]; exact r5.2
  have gneg : ∀ w : Nat, v < w → w < 100 → f_X6_isGroup (nI v - nI w) = some 0 := by
    intro w h1 h2
    unfold f_X6_isGroup f_X6_isWithin
    rw [if_pos (pk_sneg (by omega) h1)]
    rfl
  rcases hv with hv | ⟨h1, h2⟩ | ⟨h1, h2⟩
  · rw [show (10 : Int32) = nI 10 from rfl, show (20 : Int32) = nI 20 from rfl, gneg 10 (by omega) (by omega), gneg 20 (by omega) (by omega), Option.bind_some, i00, Option.bind_some, i00]
    rcases v with _ | _ | _ | _ | _ | _ | v
    · rw [if_pos (by decide), if_pos (by decide), rd_nI _ hk (by omega), Option.bind_some]
      have := ofreeS (cm := cm) (C := 27) (ch := cm 27) hk
      rw [pC_self] at this
      rw [this, Option.bind_some, f1, f2]
      exact ⟨_, _, _, rfl, rfl, hfin⟩
    · rw [if_neg (by decide), if_pos (by decide), if_neg (by decide), if_pos (by decide), rd_nI _ hk (by omega), Option.bind_some, ocountTaken' hn s1.1, Option.bind_some, s4 k hk]
      refine ⟨_, _, _, rfl, ?_, hfin⟩
      unfold tkN
      rw [cntP_congr n (fun i hi => ?_)]
      obtain ⟨r1, r3, -⟩ := s2.1 i hi
      simp only [r1, r3]
    · rw [if_neg (by decide), if_neg (by decide), if_pos (by decide), if_neg (by decide), if_neg (by decide), if_pos (by decide), ocountCounted hk hn s1.1 hB hGo, Option.bind_some, mcountedIn _ hn e157, Option.bind_some]
      refine ⟨_, _, _, rfl, ?_, hfin⟩
      rw [cntP_congr n (fun i hi => ?_)]
      obtain ⟨-, r2, -⟩ := hRC.1 i hi
      simp [r2]
    · rw [if_neg (by decide), if_neg (by decide), if_neg (by decide), if_pos (by decide), if_neg (by decide), if_neg (by decide), if_neg (by decide), if_pos (by decide), rd_nI _ hk (by omega), Option.bind_some, s5 k hk]
      have := ofreeS (cm := cm) (C := 27) (ch := cm 27) hk
      rw [pC_self] at this
      rw [this, Option.bind_some, f1, ocountSeated hn s1.1, Option.bind_some]
      refine ⟨_, _, _, rfl, ?_, hfin⟩
      unfold stN
      rw [cntP_congr n (fun i hi => ?_)]
      obtain ⟨r1, -⟩ := s2.1 i hi
      simp only [r1]
    · rw [if_neg (by decide), if_neg (by decide), if_neg (by decide), if_neg (by decide), if_pos (by decide), if_neg (by decide), if_neg (by decide), if_neg (by decide), if_neg (by decide), if_pos (by decide), oworst hn (okR_srt (kyM (mm 1)) n) l s1.1 (fun r p hr => (s1.2.2.1 r p hr).1) s2, Option.bind_some, mworst hn (okR_srt (kyM (mm 1)) n) e157 (fun r p hr => (s1.2.2.1 r p hr).2), Option.bind_some, s1.2.1]
      exact ⟨_, _, _, rfl, rfl, hfin⟩
    · rw [if_neg (by decide), if_neg (by decide), if_neg (by decide), if_neg (by decide), if_neg (by decide), if_pos (by decide), if_neg (by decide), if_neg (by decide), if_neg (by decide), if_neg (by decide), if_neg (by decide), if_pos (by decide)]
      obtain ⟨ch', mm', a1, a2, a3, a4, a5, -⟩ := fill_2 (cm := cm) (C := 27) (o := 1) (k := k) (by decide) (OF_of l V).2.1 s1 s2 hk
      unfold f_X0_fillOf
      rw [a1, Option.bind_some, a2, Option.bind_some, a4, Option.bind_some, Option.bind_some]
      refine ⟨_, _, _, rfl, rfl, (hI.ch a3).km (d3.tr ⟨a5 1 (by decide), a5 2 (by decide), a5 18 (by decide), congrFun (a5 0 (by decide)) 2, congrFun (a5 0 (by decide)) 3⟩)⟩
    · omega
  · obtain ⟨g, rfl⟩ : ∃ g, v = 10 + g := ⟨v - 10, by omega⟩
    have e0 : ∀ w : Nat, w < 10 → ¬ nI (10 + g) = nI w := fun w hw q => by have := (nI_eq (by omega) (by omega)).mp q; omega
    have := ofreeRes (cm := cm) (C := 27) (ch := cm 27) hk (show g < 4 by omega)
    rw [pC_self] at this
    rw [show nI (10 + g) - 10 = nI g by rw [show (10 : Int32) = nI 10 from rfl, pk_sub (by omega), Nat.add_sub_cancel_left], ogroup_y (by omega), Option.bind_some, i10, this, Option.bind_some, if_neg (show ¬ nI (10 + g) = 0 from e0 0 (by omega)), if_neg (show ¬ nI (10 + g) = 1 from e0 1 (by omega)), if_neg (show ¬ nI (10 + g) = 2 from e0 2 (by omega)), if_neg (show ¬ nI (10 + g) = 3 from e0 3 (by omega)), if_neg (show ¬ nI (10 + g) = 4 from e0 4 (by omega)), if_neg (show ¬ nI (10 + g) = 5 from e0 5 (by omega)), if_neg (show ¬ (20 : Int32) ≤ nI (10 + g) from nI_ge (b := 20) (by omega) (by omega)), show (4 : Int32) * nI k + nI (10 + g) - 10 = nI (4 * k + g) by rw [show (4 : Int32) = nI 4 from rfl, pk_mul, nI_add, show (10 : Int32) = nI 10 from rfl, pk_sub (by omega), show 4 * k + (10 + g) - 10 = 4 * k + g by omega], rd_nI _ (by omega) (by omega), Option.bind_some]
    obtain ⟨f6, f7, -⟩ := s1.2.2.2.2.1 (4 * k + g) (by omega)
    rw [f6, f7]
    exact ⟨_, _, _, rfl, rfl, hfin⟩
  · obtain ⟨g, rfl⟩ : ∃ g, v = 20 + g := ⟨v - 20, by omega⟩
    have e0 : ∀ w : Nat, w < 20 → ¬ nI (20 + g) = nI w := fun w hw q => by have := (nI_eq (by omega) (by omega)).mp q; omega
    have h10 : f_X6_isGroup (nI (20 + g) - 10) = some 0 := by
      rw [show nI (20 + g) - 10 = nI (10 + g) by rw [show (10 : Int32) = nI 10 from rfl, pk_sub (by omega), show 20 + g - 10 = 10 + g by omega]]
      rcases gdn (nI (10 + g)) with ⟨j, hj, e, -⟩ | ⟨-, h, -⟩
      · have := (nI_eq (by omega) (by omega)).mp e; omega
      · exact h
    rw [h10, Option.bind_some, i00, show nI (20 + g) - 20 = nI g by rw [show (20 : Int32) = nI 20 from rfl, pk_sub (by omega), Nat.add_sub_cancel_left], ogroup_y (by omega), Option.bind_some, i10, ocountTo (nI g) hn s1.1 hB, Option.bind_some, if_neg (show ¬ nI (20 + g) = 0 from e0 0 (by omega)), if_neg (show ¬ nI (20 + g) = 1 from e0 1 (by omega)), if_neg (show ¬ nI (20 + g) = 2 from e0 2 (by omega)), if_neg (show ¬ nI (20 + g) = 3 from e0 3 (by omega)), if_neg (show ¬ nI (20 + g) = 4 from e0 4 (by omega)), if_neg (show ¬ nI (20 + g) = 5 from e0 5 (by omega)), if_pos (show (20 : Int32) ≤ nI (20 + g) from nI_le (a := 20) (by omega) (by omega)), mcountedIn _ hn e157, Option.bind_some]
    refine ⟨_, _, _, rfl, ?_, hfin⟩
    rw [cntP_congr n (fun i hi => ?_)]
    obtain ⟨-, r2, -⟩ := hRC.1 i hi
    rw [r2]
    have hne := m9_ne (n := g) (by omega)
    by_cases e : mm2 9 i = nI g
    · rw [e]; simp [hne]
    · simp [e, hne]
theorem op_ofKind {cm : CM} {mm : MM} (h : INV cm mm) (a1 a2 : Int32) : EQ2 (f_X6_ofKind cm a1 a2) (f_X7_ofKind mm a1 a2) := by
  obtain ⟨cm', n, mm1, mm2, p1, p2, l, V, p3, p4, c1, c2, c3, d1, d2, d3⟩ := h.ask
  unfold f_X6_ofKind f_X7_ofKind
  rcases kdn a1 with ⟨k, hk, rfl, q1, q2⟩ | ⟨-, q1, q2⟩
  rotate_left
  · rw [q1, q2, Option.bind_some, Option.bind_some, i00, i00]
    exact EQ2.k h _
  rw [q1, q2, Option.bind_some, Option.bind_some, i10, i10, p1, Option.bind_some]
  have mw : ∀ (A B : Int32) {a b : Nat}, A = nI a → B = nI b → b < 2 ^ 31 → a ≤ b → (∃ j, a ≤ j ∧ j ≤ b ∧ a2 = nI j ∧ f_X7_within a2 A B = some 1) ∨ ((∀ j, a ≤ j → j ≤ b → ¬ a2 = nI j) ∧ f_X7_within a2 A B = some 0) := by
    intro A B a b hA hB h1 h2
    subst hA; subst hB
    exact mwithin a2 h1 h2
  rcases mw 0 5 (a := 0) (b := 5) rfl rfl (by omega) (by omega) with ⟨v, -, hv, rfl, w⟩ | ⟨w0, w⟩
  · rw [w, Option.bind_some, i10, d1, Option.bind_some]
    exact kind_2 p2 l V d2 d3 hk (Or.inl hv)
  · rw [w, Option.bind_some, i00]
    rcases mw 10 13 (a := 10) (b := 13) rfl rfl (by omega) (by omega) with ⟨v, hv1, hv2, rfl, w⟩ | ⟨w1, w⟩
    · rw [w, Option.bind_some, i10, d1, Option.bind_some]
      exact kind_2 p2 l V d2 d3 hk (Or.inr (Or.inl ⟨hv1, hv2⟩))
    · rw [w, Option.bind_some, i00]
      rcases mw 20 23 (a := 20) (b := 23) rfl rfl (by omega) (by omega) with ⟨v, hv1, hv2, rfl, w⟩ | ⟨w2, w⟩
      · rw [w, Option.bind_some, i10, d1, Option.bind_some]
        exact kind_2 p2 l V d2 d3 hk (Or.inr (Or.inr ⟨hv1, hv2⟩))
      · rw [w, Option.bind_some, i00]
        have back : ∀ (W x : Int32) {w : Nat}, W = nI w → ∀ j, x - W = nI j → x = nI (w + j) := by
          intro W x w hW j e
          rw [← nI_add, ← hW, ← e, Int32.add_comm, Int32.sub_add_cancel]
        have g10 : f_X6_isGroup (a2 - 10) = some 0 := by
          rcases gdn (a2 - 10) with ⟨j, hj, e, -⟩ | ⟨-, h, -⟩
          · exact absurd (back 10 a2 (w := 10) rfl j e) (w1 (10 + j) (by omega) (by omega))
          · exact h
        have g20 : f_X6_isGroup (a2 - 20) = some 0 := by
          rcases gdn (a2 - 20) with ⟨j, hj, e, -⟩ | ⟨-, h, -⟩
          · exact absurd (back 20 a2 (w := 20) rfl j e) (w2 (20 + j) (by omega) (by omega))
          · exact h
        rw [g10, Option.bind_some, i00, g20, Option.bind_some, i00, if_neg (show ¬ a2 = 0 from w0 0 (by omega) (by omega)), if_neg (show ¬ a2 = 1 from w0 1 (by omega) (by omega)), if_neg (show ¬ a2 = 2 from w0 2 (by omega) (by omega)), if_neg (show ¬ a2 = 3 from w0 3 (by omega) (by omega)), if_neg (show ¬ a2 = 4 from w0 4 (by omega) (by omega)), if_neg (show ¬ a2 = 5 from w0 5 (by omega) (by omega))]
        exact EQ2.k p2 _
