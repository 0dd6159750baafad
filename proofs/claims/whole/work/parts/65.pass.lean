/-! PURE PART: passing on, on both sides -/
theorem itr_cnt {step : Int32 × Int32 → Option ((Int32 × Int32) ⊕ (Int32 × Int32))} (P : Nat → Bool) (n : Nat) (hn : n < 2000) (hs : ∀ i c, i < n → c ≤ i → step (nI c, nI i) = some (.inr (nI (c + if P i = true then 1 else 0), nI (i + 1)))) (hx : ∀ c, step (nI c, nI n) = some (.inl (nI c, nI n))) : itr step 2000 (0, 0) = some (nI (cntP P n), nI n) :=
  itr_seq n 2000 (fun k => (nI (cntP P k), nI k)) hn (fun k hk => hs k _ hk (cntP_le P k)) (hx _)
theorem oisTaken {cm : CM} {C p : Nat} {ch : MM} {x : Int32} (hp : p < 16) : f_X0_isTaken (pC cm C ch) C (nI p) x = some (if ch 10 p = x ∧ ch 14 p = 0 then 1 else 0) := by
  unfold f_X0_isTaken
  rw [rowget hp (by omega), pC_s, Option.bind_some]
  by_cases h : ch 10 p = x
  · rw [if_pos h, rowget hp (by omega), pC_s, Option.bind_some]
    by_cases h2 : ch 14 p = 0
    · rw [if_pos h2, if_pos ⟨h, h2⟩]
    · rw [if_neg h2, if_neg (fun q => h2 q.2)]
  · rw [if_neg h, if_neg (fun q => h q.1)]
theorem misTaken {mm : MM} {p : Nat} {x : Int32} (hp : p < 16) : f_X7_isTakenIn mm (nI p) x = some (if mm 8 p = x ∧ mm 10 p = 0 then 1 else 0) := by
  unfold f_X7_isTakenIn
  rw [rd_nI _ hp (by omega), Option.bind_some]
  by_cases h : mm 8 p = x
  · rw [if_pos h, rd_nI _ hp (by omega), Option.bind_some]
    by_cases h2 : mm 10 p = 0
    · rw [if_pos h2, if_pos ⟨h, h2⟩]
    · rw [if_neg h2, if_neg (fun q => h2 q.2)]
  · rw [if_neg h, if_neg (fun q => h q.1)]
theorem if10 {α : Type} {c : Prop} [Decidable c] {A B : α} : (if (if c then (1 : Int32) else 0) = 0 then A else B) = if c then B else A := by
  by_cases h : c
  · rw [if_pos h, if_pos h, if_neg (by decide)]
  · rw [if_neg h, if_neg h, if_pos rfl]
theorem if11 {α : Type} {c : Prop} [Decidable c] {A B : α} : (if (if c then (1 : Int32) else 0) = 1 then A else B) = if c then A else B := by
  by_cases h : c
  · rw [if_pos h, if_pos h, if_pos rfl]
  · rw [if_neg h, if_neg h, if_neg (by decide)]
theorem ocountTaken {cm : CM} {C n : Nat} {ch : MM} {x : Int32} (hn : n ≤ 16) (hc : ch 0 10 = nI n) : f_X0_countTaken (pC cm C ch) C x = some (nI (cntP (fun p => decide (ch 10 p = x ∧ ch 14 p = 0)) n)) := by
  unfold f_X0_countTaken
  rw [itr_cnt (fun p => decide (ch 10 p = x ∧ ch 14 p = 0)) n (by omega) ?_ ?_, Option.bind_some]
  · intro i c hi hci
    dsimp only
    unfold f_X0_countTaken_B4
    rw [pC_s, hc, ifle (by omega) (by omega), if_neg (by omega), oisTaken (by omega), Option.bind_some, if10, nI_1, nI_1]
    by_cases h : ch 10 i = x ∧ ch 14 i = 0
    · rw [if_pos h, if_pos (decide_eq_true h)]
    · rw [if_neg h, if_neg (by rw [decide_eq_true_eq]; exact h)]; rfl
  · intro c
    dsimp only
    unfold f_X0_countTaken_B4
    rw [pC_s, hc, ifle (by omega) (by omega), if_pos (by omega)]
/-- the value of a loop that may end with a value, else -9 -/
def oval {α : Type} : α ⊕ Int32 → Int32
  | .inr r => r
  | .inl _ => -9
theorem best_2 {cm : CM} {C n k : Nat} {c m : Nat → Int32} {rk : List Nat} {fr fg : Nat → Nat} {ch mm : MM} (hG : GR c m n) (hR : okR rk n) (hS : SR c m n rk fr fg ch mm) (hC : RC n ch mm) (hk : k < 4) :
    ∃ x, f_X0_bestWithoutSeat (pC cm C ch) C (nI k) = some x ∧ f_X7_bestOf mm (nI k) = some x ∧ (x = -9 ∨ ∃ p, p < n ∧ x = nI p ∧ mm 8 p = -9 ∧ ¬ 2 < m (8 * p + 4)) := by
  obtain ⟨g1, hn, g2, -⟩ := hG
  have key := itr2 (st1 := fun s : Int32 => f_X0_bestWithoutSeat_B8 (pC cm C ch) C (ch 8 k &&& (ch 0 11 ^^^ (-1))) s) (st2 := fun s : Int32 => f_X7_bestOf_B2 mm (nI k) s)
    (fun r s1 s2 => s1 = nI r ∧ s2 = nI r) (fun o1 o2 => ∃ x, oval o1 = x ∧ oval o2 = x ∧ (x = -9 ∨ ∃ p, p < n ∧ x = nI p ∧ mm 8 p = -9 ∧ ¬ 2 < m (8 * p + 4))) n ?_ ?_ 2000 0 0 0 (Nat.zero_le _) (by omega) ⟨rfl, rfl⟩
  · obtain ⟨o1, o2, i1, i2, x, e1, e2, e3⟩ := key
    refine ⟨x, ?_, ?_, e3⟩
    · unfold f_X0_bestWithoutSeat
      rw [owithout hk, Option.bind_some, i1, Option.bind_some, ← e1]
      cases o1 <;> rfl
    · unfold f_X7_bestOf
      rw [i2, Option.bind_some, ← e2]
      cases o2 <;> rfl
  · rintro r s1 s2 hr ⟨rfl, rfl⟩
    obtain ⟨p, hp⟩ : ∃ p, rk[r]? = some p := ⟨rk[r]'(by rw [hR.1]; exact hr), List.getElem?_eq_getElem _⟩
    have hpn : p < n := (hR.2.2 p).mp (List.mem_of_getElem? hp)
    obtain ⟨s1, s2⟩ := hS.2.2.1 r p hp
    obtain ⟨g21, g22, g23⟩ := g2 p hpn
    have hb := hop_bt hS hC hk hpn hn
    have hm1 : mm 1 = m := hS.2.1
    have hcl : f_X0_bestWithoutSeat_B8 (pC cm C ch) C (ch 8 k &&& (ch 0 11 ^^^ (-1))) (nI r) = if (((ch 8 k &&& (ch 0 11 ^^^ (-1))) >>> (nI p &&& 31)) &&& 1) = 1 then some (.inl (.inr (nI p))) else some (.inr (nI (r + 1))) := by
      unfold f_X0_bestWithoutSeat_B8
      rw [pC_s, hS.1, ifle (by omega) (by omega), if_neg (by omega), opers (by omega) s1, Option.bind_some, nI_1]
    have hmo : f_X7_bestOf_B2 mm (nI k) (nI r) = if (if 2 < c (64 + p) then (0 : Int32) else 1) = 0 then some (.inr (nI (r + 1))) else if mm 8 p = -9 then if (if nI k = 0 ∨ c (32 + p) = nI k then (1 : Int32) else 0) = 0 then some (.inr (nI (r + 1))) else some (.inl (.inr (nI p))) else some (.inr (nI (r + 1))) := by
      unfold f_X7_bestOf_B2
      rw [rd_157, Option.bind_some, hm1, g1, ifle (by omega) (by omega), if_neg (by omega), rd_nI _ (by omega) (by omega), s2, Option.bind_some, mactive (by omega), Option.bind_some, hm1, ← g23, rd_nI _ (by omega) (by omega), Option.bind_some, mcand (by omega), Option.bind_some, hm1, ← g21, nI_1]
    rw [hcl, hmo]
    by_cases hh : hopB c (mm 8) k p = true
    · refine Or.inr ⟨(.inr (nI p) : Int32 ⊕ Int32), (.inr (nI p) : Int32 ⊕ Int32), ?_, ?_, nI p, rfl, rfl, Or.inr ⟨p, hpn, rfl, ?_, ?_⟩⟩
      · rw [if_pos (by rw [bt_test (by omega)]; exact hb.mpr hh)]
      · unfold hopB at hh
        rw [Bool.and_eq_true, decide_eq_true_eq, cnB_iff] at hh
        obtain ⟨⟨q1, q2⟩, q3⟩ := hh
        have q4 : nI k = 0 ∨ c (32 + p) = nI k := by
          rcases q2 with q | q
          · exact Or.inl (by rw [q]; rfl)
          · exact Or.inr q
        rw [if_neg q1, if_neg (by decide), if_pos q3, if_pos q4, if_neg (by decide)]
      · unfold hopB at hh
        rw [Bool.and_eq_true, decide_eq_true_eq] at hh
        exact hh.2
      · unfold hopB at hh
        rw [Bool.and_eq_true, cnB_iff] at hh
        rw [← g23]
        exact hh.1.1
    · refine Or.inl ⟨nI (r + 1), nI (r + 1), ?_, ?_, rfl, rfl⟩
      · rw [if_neg (by rw [bt_test (by omega)]; exact fun q => hh (hb.mp q))]
      · by_cases q1 : 2 < c (64 + p)
        · rw [if_pos q1, if_pos rfl]
        · rw [if_neg q1, if_neg (by decide)]
          by_cases q3 : mm 8 p = -9
          · rw [if_pos q3]
            by_cases q4 : nI k = 0 ∨ c (32 + p) = nI k
            · exfalso
              refine hh ?_
              unfold hopB
              rw [Bool.and_eq_true, decide_eq_true_eq, cnB_iff]
              refine ⟨⟨q1, ?_⟩, q3⟩
              rcases q4 with q | q
              · exact Or.inl ((nI_eq (b := 0) (by omega) (by omega)).mp q)
              · exact Or.inr q
            · rw [if_neg q4, if_pos rfl]
          · rw [if_neg q3]
  · rintro s1 s2 ⟨rfl, rfl⟩
    refine ⟨(.inl (nI n) : Int32 ⊕ Int32), (.inl (nI n) : Int32 ⊕ Int32), ?_, ?_, -9, rfl, rfl, Or.inl rfl⟩
    · unfold f_X0_bestWithoutSeat_B8
      rw [pC_s, hS.1, ifle (by omega) (by omega), if_pos (by omega)]
    · unfold f_X7_bestOf_B2
      rw [rd_157, Option.bind_some, hS.2.1, g1, ifle (by omega) (by omega), if_pos (by omega)]
/-- heirs in range; kind 0 has none -/
def okH (m : Nat → Int32) : Prop := m 148 = -9 ∧ ∀ k, k < 4 → oN (m (148 + k)) 4
theorem cnt_full {P : Nat → Bool} : ∀ {n : Nat}, cntP P n = n → ∀ i, i < n → P i = true
  | 0, _, i, hi => by omega
  | n + 1, h, i, hi => by
    rw [cntP_s] at h
    have := cntP_le P n
    by_cases e : P n = true
    · rw [if_pos e] at h
      by_cases e2 : i = n
      · subst e2; exact e
      · exact cnt_full (n := n) (by omega) i (by omega)
    · rw [if_neg e] at h; omega
theorem seen1 : ∀ k, k < 4 → cntP (bt (1 <<< (nI k &&& 31))) 4 = 1 := by decide +kernel
theorem recv_2 {cm : CM} {C o n k : Nat} {m : Nat → Int32} {rk : List Nat} {fr fg : Nat → Nat} {ch mm : MM} (hoC : o ≠ C) (hG : GR (cm o 1) m n) (hH : okH m) (hR : okR rk n) (hS : SR (cm o 1) m n rk fr fg ch mm) (hC : RC n ch mm) (hk : k < 4) :
    ∃ x, f_X0_findReceiver (pC cm C ch) C o (nI k) = some x ∧ f_X7_heirOf mm (nI k) = some x ∧ (x = -9 ∨ ∃ p, p < n ∧ x = nI p ∧ mm 8 p = -9 ∧ ¬ 2 < m (8 * p + 4)) := by
  have hm1 : mm 1 = m := hS.2.1
  have g3 := hG.2.2.2.1
  have key := itr2 (st1 := fun s : Int32 × Int32 × Int32 => f_X0_findReceiver_B17 (pC cm C ch) C o s.1 s.2.1 s.2.2) (st2 := fun s : Int32 × Int32 => f_X7_heirOf_B15 mm s.1 s.2)
    (fun i s1 s2 => ∃ S N, s1 = (S, N, nI i) ∧ s2 = (S, N) ∧ oN N 4 ∧ cntP (bt S) 4 = i + 1) (fun o1 o2 => ∃ x, oval o1 = x ∧ oval o2 = x ∧ (x = -9 ∨ ∃ p, p < n ∧ x = nI p ∧ mm 8 p = -9 ∧ ¬ 2 < m (8 * p + 4))) 3 ?_ ?_ 2000 0 (1 <<< (nI k &&& 31), m (148 + k), 0) (1 <<< (nI k &&& 31), m (148 + k)) (Nat.zero_le _) (by omega) ⟨_, _, rfl, rfl, hH.2 k hk, seen1 k hk⟩
  · obtain ⟨o1, o2, i1, i2, x, e1, e2, e3⟩ := key
    refine ⟨x, ?_, ?_, e3⟩
    · unfold f_X0_findReceiver
      rw [og_148 hk, pC_n _ _ hoC, (g3 k hk).1, Option.bind_some, i1, Option.bind_some, ← e1]
      cases o1 <;> rfl
    · unfold f_X7_heirOf
      rw [hm1, rdo_148 _ hk, Option.bind_some, i2, Option.bind_some, ← e2]
      cases o2 <;> rfl
  · rintro i s1 s2 hi ⟨S, N, rfl, rfl, hN, hcn⟩
    dsimp only
    unfold f_X0_findReceiver_B17 f_X7_heirOf_B15
    rw [show (4 : Int32) = nI 4 from rfl, ifle (by omega) (by omega), if_neg (by omega)]
    rcases hN with rfl | ⟨j, hj, rfl⟩
    · refine Or.inr ⟨.inr (-9), .inl (S, -9), ?_, ?_, -9, rfl, rfl, Or.inl rfl⟩
      · rw [okind_9, Option.bind_some, if_pos rfl]
      · rw [if_pos rfl]
    · rw [okind_y hj, Option.bind_some, if_neg (by decide), if_neg (m9_ne (by omega)), isin, Option.bind_some]
      by_cases hb : bt S j = true
      · refine Or.inr ⟨.inr (-9), .inl (S, nI j), ?_, ?_, -9, rfl, rfl, Or.inl rfl⟩
        · rw [if_pos (by rw [bt_test (by omega)]; exact hb)]
        · rw [if_neg (by rw [bt_test0 (by omega), hb]; decide)]
      · have hb' : bt S j = false := by simpa using hb
        rw [if_neg (by rw [bt_test (by omega)]; exact hb), if_pos (by rw [bt_test0 (by omega)]; exact hb')]
        obtain ⟨x, x1, x2, x3⟩ := best_2 (cm := cm) (C := C) hG hR hS hC hj
        rw [x1, x2, Option.bind_some, Option.bind_some]
        by_cases hx : x = -9
        · refine Or.inl ⟨(S ||| (1 <<< (nI j &&& 31)), m (148 + j), nI (i + 1)), (S ||| (1 <<< (nI j &&& 31)), m (148 + j)), ?_, ?_, _, _, rfl, rfl, hH.2 j hj, ?_⟩
          · rw [if_pos hx, og_148 hj, pC_n _ _ hoC, (g3 j hj).1, Option.bind_some, nI_1]
          · rw [if_pos hx, hm1, rdo_148 _ hj, Option.bind_some]
          · rw [cntP_one (P := bt S) (p := j) hb' (by rw [bt_take (by omega) (by omega)]; simp) 4 hj (fun q hq hqj => by rw [bt_take (by omega) (by omega)]; simp [hqj]), hcn]
        · refine Or.inr ⟨.inr x, .inr x, ?_, ?_, x, rfl, rfl, x3⟩
          · rw [if_neg hx]
          · rw [if_neg hx]
  · rintro s1 s2 ⟨S, N, rfl, rfl, hN, hcn⟩
    dsimp only
    unfold f_X0_findReceiver_B17 f_X7_heirOf_B15
    rw [if_neg (by decide)]
    rcases hN with rfl | ⟨j, hj, rfl⟩
    · refine ⟨.inr (-9), .inl (S, -9), ?_, ?_, -9, rfl, rfl, Or.inl rfl⟩
      · rw [okind_9, Option.bind_some, if_pos rfl]
      · rw [if_pos rfl]
    · have hb := cnt_full hcn j hj
      refine ⟨.inr (-9), .inl (S, nI j), ?_, ?_, -9, rfl, rfl, Or.inl rfl⟩
      · rw [okind_y hj, Option.bind_some, if_neg (by decide), if_pos (by rw [bt_test (by omega)]; exact hb)]
      · rw [if_neg (m9_ne (by omega)), isin, Option.bind_some, if_neg (by rw [bt_test0 (by omega), hb]; decide)]
/-- seats of a kind, passed on or not -/
def stN (mm : MM) (n k : Nat) : Nat := cntP (fun p => decide (mm 8 p = nI k)) n
def EM (n : Nat) (fr : Nat → Nat) (mm : MM) : Prop := ∀ j, j < 4 → mm 7 j = nI (fr j) - nI (stN mm n j)
/-- what choosing leaves alone -/
def KM (a b : MM) : Prop := b 1 = a 1 ∧ b 2 = a 2 ∧ b 18 = a 18 ∧ b 0 2 = a 0 2 ∧ b 0 3 = a 0 3
theorem KM.rf (a : MM) : KM a a := ⟨rfl, rfl, rfl, rfl, rfl⟩
theorem KM.tr {a b c : MM} (h1 : KM a b) (h2 : KM b c) : KM a c := ⟨h2.1.trans h1.1, h2.2.1.trans h1.2.1, h2.2.2.1.trans h1.2.2.1, h2.2.2.2.1.trans h1.2.2.2.1, h2.2.2.2.2.trans h1.2.2.2.2⟩
/-- the two choices side by side -/
def CH (c m : Nat → Int32) (n : Nat) (rk : List Nat) (fr fg : Nat → Nat) (ch mm : MM) : Prop := SR c m n rk fr fg ch mm ∧ RC n ch mm ∧ GN n mm ∧ CT n mm
theorem sub_nI1 (a b : Nat) : nI a - nI b - 1 = nI a - nI (b + 1) := by
  rw [← nI_1, Int32.sub_eq_add_neg, Int32.sub_eq_add_neg, Int32.sub_eq_add_neg, Int32.neg_add, Int32.sub_eq_add_neg, Int32.add_assoc]
theorem idle {mm : MM} {k v : Nat} (hk : k < 4) (h4 : mm 4 k = nI v) (hv : v ≤ 9) (h : f_X7_heirOf mm (nI k) = some (-9)) : ∀ (f d t : Nat), d + t = v → d < f → ∃ a, itr (fun s : Int32 × MM => f_X7_handOn_B7 (nI k) s.1 s.2) f (nI t, mm) = some (a, mm)
  | 0, d, t, _, h2 => by omega
  | f + 1, 0, t, h1, h2 => by
    rw [itr_succ]
    dsimp only
    unfold f_X7_handOn_B7
    rw [rd_nI _ hk (by omega), h4, Option.bind_some, ifle (by omega) (by omega), if_pos (by omega)]
    exact ⟨_, rfl⟩
  | f + 1, d + 1, t, h1, h2 => by
    obtain ⟨a, ha⟩ := idle hk h4 hv h f d (t + 1) (by omega) (by omega)
    rw [itr_succ]
    dsimp only
    unfold f_X7_handOn_B7
    rw [rd_nI _ hk (by omega), h4, Option.bind_some, ifle (by omega) (by omega), if_neg (by omega), h, Option.bind_some, if_pos rfl, nI_1]
    exact ⟨a, ha⟩
/-- one seat passed on -/
theorem hand_1 {c m : Nat → Int32} {n k p : Nat} {rk : List Nat} {fr fg : Nat → Nat} {ch mm : MM} (hn : n ≤ 16) (hk : k < 4) (hp : p < n) (h9 : mm 8 p = -9) (hA : ¬ 2 < mm 1 (8 * p + 4)) (hC : CH c m n rk fr fg ch mm) (hE : EM n fr mm) :
    CH c m n rk fr fg (u2 (tkC ch p k (-9)) 14 (upd (ch 14) p 1)) (u2 (u2 (u2 mm 8 (upd (mm 8) p (nI k))) 10 (upd (mm 10) p 1)) 7 (upd (mm 7) k (mm 7 k - 1))) ∧ EM n fr (u2 (u2 (u2 mm 8 (upd (mm 8) p (nI k))) 10 (upd (mm 10) p 1)) 7 (upd (mm 7) k (mm 7 k - 1))) := by
  obtain ⟨hS, hR, hN, hT⟩ := hC
  have e8 : (u2 (u2 (u2 mm 8 (upd (mm 8) p (nI k))) 10 (upd (mm 10) p 1)) 7 (upd (mm 7) k (mm 7 k - 1))) 8 = upd (mm 8) p (nI k) := by rw [u2_n _ _ (by decide), u2_n _ _ (by decide), u2_s]
  have e10 : (u2 (u2 (u2 mm 8 (upd (mm 8) p (nI k))) 10 (upd (mm 10) p 1)) 7 (upd (mm 7) k (mm 7 k - 1))) 10 = upd (mm 10) p 1 := by rw [u2_n _ _ (by decide), u2_s]
  have e7 : (u2 (u2 (u2 mm 8 (upd (mm 8) p (nI k))) 10 (upd (mm 10) p 1)) 7 (upd (mm 7) k (mm 7 k - 1))) 7 = upd (mm 7) k (mm 7 k - 1) := by rw [u2_s]
  have eo : keeps [7, 8, 10] mm (u2 (u2 (u2 mm 8 (upd (mm 8) p (nI k))) 10 (upd (mm 10) p 1)) 7 (upd (mm 7) k (mm 7 k - 1))) := (((keeps.rf _ _).up (by decide)).up (by decide)).up (by decide)
  generalize u2 (u2 (u2 mm 8 (upd (mm 8) p (nI k))) 10 (upd (mm 10) p 1)) 7 (upd (mm 7) k (mm 7 k - 1)) = mm' at *
  have c10 : (u2 (tkC ch p k (-9)) 14 (upd (ch 14) p 1)) 10 = upd (ch 10) p (nI k) := by rw [u2_n _ _ (by decide), tk_10]
  have c12 : (u2 (tkC ch p k (-9)) 14 (upd (ch 14) p 1)) 12 = upd (ch 12) p (-9) := by rw [u2_n _ _ (by decide), tk_12]
  have c14 : (u2 (tkC ch p k (-9)) 14 (upd (ch 14) p 1)) 14 = upd (ch 14) p 1 := by rw [u2_s]
  have c0 : (u2 (tkC ch p k (-9)) 14 (upd (ch 14) p 1)) 0 = tkC ch p k (-9) 0 := by rw [u2_n _ _ (by decide)]
  have co : keeps [0, 10, 12, 14] ch (u2 (tkC ch p k (-9)) 14 (upd (ch 14) p 1)) := (tk_kp.wd (by decide)).up (by decide)
  generalize u2 (tkC ch p k (-9)) 14 (upd (ch 14) p 1) = ch' at *
  refine ⟨⟨hS.kp (by rw [c0, tk_0 (by decide)]) (fun q hq => co q (by simp at hq ⊢; omega)) (fun q hq => eo q (by simp at hq ⊢; omega)), ⟨fun q hq => ?_, fun i h1 h2 => ?_⟩, ⟨fun q hq h => ?_, fun q hq h => ?_⟩, fun j hj => ?_⟩, fun j hj => ?_⟩
  · obtain ⟨r1, r2, r3, r4, r5, r6⟩ := hR.1 q hq
    rw [e8, e10, eo 9 (by decide), c10, c12, c14, c0, tk_bt (by omega) (by omega)]
    by_cases e : q = p
    · subst e
      rw [upd_s, upd_s, upd_s, upd_s, upd_s]
      exact ⟨rfl, (hN.1 q hp h9).1.symm, rfl, Or.inr ⟨k, hk, rfl⟩, ⟨Or.inr rfl, r5.2⟩, by simp [m9_ne (n := k) (by omega)]⟩
    · rw [upd_n _ _ e, upd_n _ _ e, upd_n _ _ e, upd_n _ _ e, upd_n _ _ e, decide_eq_false e, Bool.or_false]
      exact ⟨r1, r2, r3, r4, r5, r6⟩
  · rw [c0, tk_bt (by omega) h2, hR.2 i h1 h2, decide_eq_false (by omega)]; rfl
  · rw [e8] at h
    rw [eo 9 (by decide), e10]
    by_cases e : q = p
    · subst e
      rw [upd_s] at h
      exact absurd h (m9_ne (by omega))
    · rw [upd_n _ _ e] at h ⊢
      exact hN.1 q hq h
  · rw [eo 1 (by decide)]
    by_cases e : q = p
    · subst e; exact hA
    · rw [e8, upd_n _ _ e] at h
      exact hN.2 q hq h
  · have := hT j hj
    unfold tkN at this ⊢
    rw [eo 6 (by decide), this, e8, e10]
    congr 1
    refine cntP_congr n (fun i _ => ?_)
    by_cases e : i = p
    · subst e
      rw [upd_s, upd_s, h9]
      simp [m9_ne' (n := j) (by omega)]
    · rw [upd_n _ _ e, upd_n _ _ e]
  · have := hE j hj
    unfold stN at this ⊢
    rw [e7, e8]
    by_cases e : j = k
    · subst e
      rw [upd_s, this, sub_nI1, cntP_one (P := fun p => decide (mm 8 p = nI j)) (Q := fun q => decide (upd (mm 8) p (nI j) q = nI j)) (p := p) (decide_eq_false (by rw [h9]; exact m9_ne' (by omega))) (decide_eq_true (upd_s _ _ _)) n hp (fun i _ hi => by rw [upd_n _ _ hi])]
    · rw [upd_n _ _ e, this]
      congr 2
      refine cntP_congr n (fun i _ => ?_)
      by_cases e2 : i = p
      · subst e2
        rw [upd_s, h9]
        have h1 := m9_ne' (n := j) (by omega)
        have h2 : ¬ nI k = nI j := fun q => e ((nI_eq (by omega) (by omega)).mp q).symm
        simp [h1, h2]
      · rw [upd_n _ _ e2]
theorem ile_sub {a b i : Nat} (ha : a < 2 ^ 20) (hb : b < 2 ^ 20) (hi : i < 2 ^ 20) : (nI a - nI b ≤ nI i) ↔ a ≤ b + i := by
  by_cases h : b ≤ a
  · rw [pk_sub h, nI_leI (by omega) (by omega)]; omega
  · have h1 := pk_sneg (show b < 2 ^ 30 by omega) (show a < b by omega)
    have h2 : (0 : Int32) ≤ nI i := nI_pos' (by omega)
    constructor
    · intro _; omega
    · intro _
      rw [Int32.le_iff_toInt_le] at h2 ⊢
      rw [Int32.lt_iff_toInt_lt] at h1
      omega
theorem pass_loop {cm : CM} {C o n k t : Nat} {m : Nat → Int32} {rk : List Nat} {fr fg : Nat → Nat} (hoC : o ≠ C) (hG : GR (cm o 1) m n) (hH : okH m) (hR : okR rk n) (hk : k < 4) (ht : t ≤ 16) : ∀ (f d i : Nat) (ch mm : MM), fr k - t - i = d → d < f → i ≤ 16 → i + d ≤ 16 → CH (cm o 1) m n rk fr fg ch mm → EM n fr mm →
    ∃ o1 ch' mm' a, itr (fun s : Int32 × CM => f_X0_passOn_B20 C o (nI k) (nI (fr k)) (nI t) s.1 s.2) f (nI i, pC cm C ch) = some o1 ∧ (o1 = .inr (pC cm C ch') ∨ ∃ b, o1 = .inl (b, pC cm C ch')) ∧ itr (fun s : Int32 × MM => f_X7_handOn_B7 (nI k) s.1 s.2) f (nI (t + i), mm) = some (a, mm') ∧ CH (cm o 1) m n rk fr fg ch' mm' ∧ EM n fr mm' ∧ KM mm mm'
  | 0, d, i, ch, mm, _, h, _, _, _, _ => by omega
  | f + 1, d, i, ch, mm, h1, h2, h3, h4, hC, hE => by
    have hn := hG.2.1
    obtain ⟨f1, f2, f3⟩ := hC.1.2.2.2.1 k hk
    by_cases hd : d = 0
    · refine ⟨.inl (nI i, pC cm C ch), ch, mm, nI (t + i), ?_, Or.inr ⟨_, rfl⟩, ?_, hC, hE, KM.rf _⟩
      · rw [itr_succ]
        dsimp only
        unfold f_X0_passOn_B20
        rw [if_pos ((ile_sub (by omega) (by omega) (by omega)).mpr (by omega))]
      · rw [itr_succ]
        dsimp only
        unfold f_X7_handOn_B7
        rw [rd_nI _ hk (by omega), f2, Option.bind_some, ifle (by omega) (by omega), if_pos (by omega)]
    · obtain ⟨x, x1, x2, x3⟩ := recv_2 (cm := cm) (C := C) hoC hG hH hR hC.1 hC.2.1 hk
      rcases x3 with rfl | ⟨p, hp, rfl, h9, hA⟩
      · obtain ⟨a, ha⟩ := idle hk f2 f3 x2 (f + 1) (fr k - (t + i)) (t + i) (by omega) (by omega)
        refine ⟨.inr (pC cm C ch), ch, mm, a, ?_, Or.inl rfl, ha, hC, hE, KM.rf _⟩
        rw [itr_succ]
        dsimp only
        unfold f_X0_passOn_B20
        rw [if_neg (fun q => by have := (ile_sub (by omega) (by omega) (by omega)).mp q; omega), x1, Option.bind_some, if_pos rfl]
      · obtain ⟨z1, z2⟩ := hand_1 hn hk hp h9 (by rw [hC.1.2.1]; exact hA) hC hE
        obtain ⟨o1, ch', mm', a, y1, y2, y3, y4, y5, y6⟩ := pass_loop hoC hG hH hR hk ht f (d - 1) (i + 1) _ _ (by omega) (by omega) (by omega) (by omega) z1 z2
        refine ⟨o1, ch', mm', a, ?_, y2, ?_, y4, y5, KM.tr ?_ y6⟩
        · rw [itr_succ]
          dsimp only
          unfold f_X0_passOn_B20
          rw [if_neg (fun q => by have := (ile_sub (by omega) (by omega) (by omega)).mp q; omega), x1, Option.bind_some, if_neg (m9_ne (by omega)), otake (by omega), Option.bind_some, rowset (by omega) (by omega), pC_s, u3_pC', Option.bind_some, nI_1, tk_kp 14 (by decide)]
          exact y1
        · rw [itr_succ]
          dsimp only
          unfold f_X7_handOn_B7
          rw [rd_nI _ hk (by omega), f2, Option.bind_some, ifle (by omega) (by omega), if_neg (by omega), x2, Option.bind_some, if_neg (m9_ne (by omega)), wr_nI _ _ (by omega) (by omega), Option.bind_some, u2_n (p := 8) (b := 10) _ _ (by decide), wr_nI _ _ (by omega) (by omega), Option.bind_some, u2_n (p := 10) (b := 7) _ _ (by decide), u2_n (p := 8) (b := 7) _ _ (by decide), rd_nI _ hk (by omega), Option.bind_some, wr_nI _ _ hk (by omega), Option.bind_some, nI_1]
          exact y3
        · refine ⟨?_, ?_, ?_, ?_, ?_⟩ <;> rw [u2_n _ _ (by decide), u2_n _ _ (by decide), u2_n _ _ (by decide)]
theorem pass_on {cm : CM} {C o n k : Nat} {m : Nat → Int32} {rk : List Nat} {fr fg : Nat → Nat} {ch mm : MM} (hoC : o ≠ C) (hG : GR (cm o 1) m n) (hH : okH m) (hR : okR rk n) (hk : k < 4) (hC : CH (cm o 1) m n rk fr fg ch mm) (hE : EM n fr mm) :
    ∃ ch' mm', f_X0_passOn (pC cm C ch) C o (nI k) = some (pC cm C ch') ∧ f_X7_handOn mm (nI k) = some mm' ∧ CH (cm o 1) m n rk fr fg ch' mm' ∧ EM n fr mm' ∧ KM mm mm' := by
  have hn := hG.2.1
  obtain ⟨f1, f2, f3⟩ := hC.1.2.2.2.1 k hk
  have hcn : tkN mm n k ≤ 16 := Nat.le_trans (cntP_le _ _) hn
  by_cases h0 : k = 0
  · subst h0
    have hx : f_X7_heirOf mm (nI 0) = some (-9) := by
      unfold f_X7_heirOf
      rw [hC.1.2.1, rdo_148 _ (by omega), hH.1, Option.bind_some, itr_succ]
      dsimp only
      unfold f_X7_heirOf_B15
      rw [if_pos rfl]
      rfl
    by_cases hle : tkN mm n 0 ≤ fr 0
    · obtain ⟨a, ha⟩ := idle (by omega) f2 f3 hx 2000 (fr 0 - tkN mm n 0) (tkN mm n 0) (by omega) (by omega)
      refine ⟨ch, mm, ?_, ?_, hC, hE, KM.rf _⟩
      · unfold f_X0_passOn
        rw [show nI 0 = (0 : Int32) from rfl, if_pos rfl]
      · unfold f_X7_handOn
        rw [rd_nI _ (by omega) (by omega), hC.2.2.2 0 (by omega), Option.bind_some, ha, Option.bind_some]
    · refine ⟨ch, mm, ?_, ?_, hC, hE, KM.rf _⟩
      · unfold f_X0_passOn
        rw [show nI 0 = (0 : Int32) from rfl, if_pos rfl]
      · unfold f_X7_handOn
        rw [rd_nI _ (by omega) (by omega), hC.2.2.2 0 (by omega), Option.bind_some, itr_succ]
        dsimp only
        unfold f_X7_handOn_B7
        rw [rd_nI _ (by omega) (by omega), f2, Option.bind_some, ifle (by omega) (by omega), if_pos (by omega)]
        rfl
  · have ecn : cntP (fun p => decide (ch 10 p = nI k ∧ ch 14 p = 0)) n = tkN mm n k := by
      unfold tkN
      refine cntP_congr n (fun i hi => ?_)
      obtain ⟨r1, -, r3, -⟩ := hC.2.1.1 i hi
      rw [r1, r3]
    obtain ⟨o1, ch', mm', a, y1, y2, y3, y4, y5, y6⟩ := pass_loop (cm := cm) (C := C) (t := tkN mm n k) hoC hG hH hR hk hcn 2000 (fr k - tkN mm n k) 0 ch mm (by omega) (by omega) (by omega) (by omega) hC hE
    refine ⟨ch', mm', ?_, ?_, y4, y5, y6⟩
    · unfold f_X0_passOn
      rw [if_neg (show ¬ nI k = 0 from fun q => h0 ((nI_eq (b := 0) (by omega) (by omega)).mp q)), ofreeS hk, f1, Option.bind_some, ocountTaken hn hC.1.1, ecn, Option.bind_some, show (0 : Int32) = nI 0 from rfl, y1, Option.bind_some]
      rcases y2 with rfl | ⟨b, rfl⟩ <;> rfl
    · unfold f_X7_handOn
      rw [rd_nI _ hk (by omega), hC.2.2.2 k hk, Option.bind_some]
      rw [Nat.add_zero] at y3
      rw [y3, Option.bind_some]
