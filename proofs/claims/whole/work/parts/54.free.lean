/-! PURE PART: free seats -/
/-- -9, or a number below b -/
def oN (x : Int32) (b : Nat) : Prop := x = -9 ∨ ∃ k, k < b ∧ x = nI k
def dN (x : Int32) : Nat := x.toNatClampNeg
def isN (x : Int32) (b : Nat) : Prop := ∃ j, j ≤ b ∧ x = nI j
theorem isN.eq {x : Int32} {b : Nat} (h : isN x b) (hb : b < 2 ^ 31) : x = nI (dN x) ∧ dN x ≤ b := by
  obtain ⟨j, hj, rfl⟩ := h
  unfold dN
  rw [nI_clamp (by omega)]
  exact ⟨rfl, hj⟩
theorem dN_nI {k : Nat} (h : k < 2 ^ 31) : dN (nI k) = k := nI_clamp h
def frz (sd nk : Nat → Int32) (k n : Nat) : Nat := cntP (fun p => decide (sd p = 3 ∧ nk p = nI k)) n
def frg (sd nk ng : Nat → Int32) (k g n : Nat) : Nat := cntP (fun p => decide (sd p = 3 ∧ nk p = nI k ∧ ng p = nI g)) n
theorem dec1 {a : Nat} (h : a < 2 ^ 30) : (if (0 : Int32) < nI a - 1 then nI a - 1 else 0) = nI (a - 1) := by
  cases a with
  | zero => rfl
  | succ a =>
    rw [show nI (a + 1) - 1 = nI a from nI_pred a, Nat.add_sub_cancel]
    cases a with
    | zero => rfl
    | succ a => rw [if_pos (by rw [show (0 : Int32) = nI 0 from rfl]; exact nI_lt (by omega) (by omega))]
theorem aln {a b : Nat} (ha : a < 2 ^ 30) (hb : b < 2 ^ 30) : f_X7_atLeastNone (nI a - nI b) = some (nI (a - b)) := by
  unfold f_X7_atLeastNone
  by_cases h : b ≤ a
  · rw [pk_sub h, if_pos (nI_pos' (by omega))]
  · have := pk_sneg hb (show a < b by omega)
    rw [if_neg (by
      intro q
      rw [Int32.le_iff_toInt_le] at q
      rw [Int32.lt_iff_toInt_lt] at this
      omega), show a - b = 0 by omega]
    rfl
/-- the three parts of Choice.findFree -/
theorem ofree1 {cm : CM} {C o : Nat} {ch : MM} (hoC : o ≠ C) : itr (fun s : Int32 × CM => f_X0_findFree_B2 C o s.1 s.2) 2000 (0, pC cm C ch) = some (4, pC cm C (u2 ch 4 (mixf 4 (fun k => cm o 1 (128 + k)) (ch 4)))) := by
  have key := itr_seq (step := fun s : Int32 × CM => f_X0_findFree_B2 C o s.1 s.2) (o := (nI 4, pC cm C (u2 ch 4 (mixf 4 (fun k => cm o 1 (128 + k)) (ch 4))))) 4 2000 (fun k => (nI k, pC cm C (u2 ch 4 (mixf k (fun k => cm o 1 (128 + k)) (ch 4))))) (by omega) ?_ ?_
  · rw [mix_0, u2_self] at key
    exact key
  · intro k hk
    dsimp only
    unfold f_X0_findFree_B2
    rw [show (4 : Int32) = nI 4 from rfl, ifle (by omega) (by omega), if_neg (by omega), og_128 hk, pC_n _ _ hoC]
    show Option.bind (f_X4_set _ _ _ _ _ _) _ = _
    rw [rowset (by omega) (by omega), pC_s, u2_s, u3_pC', u2_u2, ← mix_upd k (fun k => cm o 1 (128 + k)), nI_succ]
    rfl
  · dsimp only
    unfold f_X0_findFree_B2
    rw [if_pos (by decide)]
theorem ofree2 {cm : CM} {C o : Nat} {ch : MM} (hoC : o ≠ C) : itr (fun s : Int32 × CM => f_X0_findFree_B31 C o s.1 s.2) 2000 (0, pC cm C ch) = some (16, pC cm C (u2 ch 6 (mixf 16 (fun k => cm o 1 (132 + k)) (ch 6)))) := by
  have key := itr_seq (step := fun s : Int32 × CM => f_X0_findFree_B31 C o s.1 s.2) (o := (nI 16, pC cm C (u2 ch 6 (mixf 16 (fun k => cm o 1 (132 + k)) (ch 6))))) 16 2000 (fun k => (nI k, pC cm C (u2 ch 6 (mixf k (fun k => cm o 1 (132 + k)) (ch 6))))) (by omega) ?_ ?_
  · rw [mix_0, u2_self] at key
    exact key
  · intro k hk
    dsimp only
    unfold f_X0_findFree_B31
    rw [show (16 : Int32) = nI 16 from rfl, ifle (by omega) (by omega), if_neg (by omega), og_132 hk, pC_n _ _ hoC]
    show Option.bind (f_X4_set _ _ _ _ _ _) _ = _
    rw [rowset (by omega) (by omega), pC_s, u2_s, u3_pC', u2_u2, ← mix_upd k (fun k => cm o 1 (132 + k)), nI_succ]
    rfl
  · dsimp only
    unfold f_X0_findFree_B31
    rw [if_pos (by decide)]
theorem mix_set {n k : Nat} {F F' b : Nat → Int32} {v : Int32} (hk : k < n) (hv : F' k = v) (ho : ∀ i, i < n → i ≠ k → F' i = F i) : upd (mixf n F b) k v = mixf n F' b := by
  funext i
  by_cases e : i = k
  · subst e; rw [upd_s, mix_lt _ _ hk, hv]
  · rw [upd_n _ _ e]
    by_cases h : i < n
    · rw [mix_lt _ _ h, mix_lt _ _ h, ho i h e]
    · rw [mix_ge _ _ h, mix_ge _ _ h]
theorem mix_congr {n : Nat} {F F' b : Nat → Int32} (h : ∀ i, i < n → F i = F' i) : mixf n F b = mixf n F' b := by
  funext i
  by_cases e : i < n
  · rw [mix_lt _ _ e, mix_lt _ _ e, h i e]
  · rw [mix_ge _ _ e, mix_ge _ _ e]
/-- Choice.occupy on free seats s and free reserved seats r -/
theorem ooccupy {cm : CM} {C : Nat} {ch : MM} {s r : Nat → Nat} (hs : ∀ k, s k < 2 ^ 20) (hr : ∀ k, r k < 2 ^ 20) {x y : Int32} (hx : oN x 4) (hy : oN y 4) (h4 : ∀ k, k < 4 → ch 4 k = nI (s k)) (h6 : ∀ i, i < 16 → ch 6 i = nI (r i)) :
    ∃ ch', f_X0_occupy (pC cm C ch) C x y = some (pC cm C ch') ∧ keeps [4, 6] ch ch' ∧ (∀ k, k < 4 → ch' 4 k = nI (s k - if x = nI k then 1 else 0)) ∧ ∀ i, i < 16 → ch' 6 i = nI (r i - if x = nI (i / 4) ∧ y = nI (i % 4) then 1 else 0) := by
  unfold f_X0_occupy
  rcases hx with rfl | ⟨k, hk, rfl⟩
  · refine ⟨ch, ?_, keeps.rf _ _, fun k hk => ?_, fun i hi => ?_⟩
    · rw [rowget9, Option.bind_some, rowset9, Option.bind_some]
      rcases hy with rfl | ⟨g, hg, rfl⟩
      · rw [ogroup_9, Option.bind_some, if_pos rfl]
      · rw [ogroup_y hg, Option.bind_some, if_neg (by decide)]
        have hneg : ((-9 : Int32) * 4 + nI g) < 0 := by
          rcases (show g = 0 ∨ g = 1 ∨ g = 2 ∨ g = 3 by omega) with rfl | rfl | rfl | rfl <;> decide
        unfold f_X4_get f_X4_set
        rw [if_pos hneg, Option.bind_some, if_pos hneg, Option.bind_some]
    · rw [if_neg (m9_ne' (by omega))]; exact h4 k hk
    · rw [if_neg (fun q => m9_ne' (by omega) q.1)]; exact h6 i hi
  · have hsk := hs k
    rw [rowget (by omega) (by omega), pC_s, h4 k hk, Option.bind_some, dec1 (by omega), rowset (by omega) (by omega), Option.bind_some, pC_s, u3_pC']
    have e4 : ∀ j, j < 4 → upd (ch 4) k (nI (s k - 1)) j = nI (s j - if nI k = nI j then 1 else 0) := by
      intro j hj
      by_cases e : j = k
      · subst e; rw [upd_s, if_pos rfl]
      · rw [upd_n _ _ e, ifeq (by omega) (by omega), if_neg (by omega)]; exact h4 j hj
    rcases hy with rfl | ⟨g, hg, rfl⟩
    · refine ⟨_, ?_, (keeps.rf [4, 6] ch).up (p := 4) (f := upd (ch 4) k (nI (s k - 1))) (by decide), ?_, ?_⟩
      · rw [ogroup_9, Option.bind_some, if_pos rfl]
      · intro j hj
        rw [u2_s]; exact e4 j hj
      · intro i hi
        rw [u2_n _ _ (by decide), if_neg (fun q => m9_ne' (by omega) q.2)]; exact h6 i hi
    · have hrk := hr (4 * k + g)
      refine ⟨_, ?_, ((keeps.rf [4, 6] ch).up (p := 4) (f := upd (ch 4) k (nI (s k - 1))) (by decide)).up (p := 6) (f := upd (ch 6) (4 * k + g) (nI (r (4 * k + g) - 1))) (by decide), ?_, ?_⟩
      · rw [ogroup_y hg, Option.bind_some, if_neg (by decide), show nI k * 4 + nI g = nI (4 * k + g) by rw [show (4 : Int32) = nI 4 from rfl, pk_mul, nI_add, Nat.mul_comm], rowget (by omega) (by omega), pC_s, u2_n _ _ (by decide), h6 _ (by omega), Option.bind_some, dec1 (by omega), rowset (by omega) (by omega), Option.bind_some, pC_s, u3_pC', u2_n _ _ (by decide)]
      · intro j hj
        rw [u2_n _ _ (by decide), u2_s]; exact e4 j hj
      · intro i hi
        rw [u2_s]
        by_cases e : i = 4 * k + g
        · subst e
          rw [upd_s, show (4 * k + g) / 4 = k by omega, show (4 * k + g) % 4 = g by omega, if_pos ⟨rfl, rfl⟩]
        · rw [upd_n _ _ e, if_neg (fun q => by
            have a := (nI_eq (by omega) (by omega)).mp q.1
            have b := (nI_eq (by omega) (by omega)).mp q.2
            omega)]
          exact h6 i hi
theorem frz_s (sd nk : Nat → Int32) (k n : Nat) : frz sd nk k (n + 1) = frz sd nk k n + if sd n = 3 ∧ nk n = nI k then 1 else 0 := by
  unfold frz
  rw [cntP_s]
  congr 1
  simp
theorem frg_s (sd nk ng : Nat → Int32) (k g n : Nat) : frg sd nk ng k g (n + 1) = frg sd nk ng k g n + if sd n = 3 ∧ nk n = nI k ∧ ng n = nI g then 1 else 0 := by
  unfold frg
  rw [cntP_s]
  congr 1
  simp
/-- free seats and free reserved seats, by the class's cells -/
def frC (c : Nat → Int32) (n k : Nat) : Nat := dN (c (128 + k)) - frz (fun p => c (64 + p)) (fun p => c (80 + p)) k n
def fgC (c : Nat → Int32) (n i : Nat) : Nat := dN (c (132 + i)) - frg (fun p => c (64 + p)) (fun p => c (80 + p)) (fun p => c (96 + p)) (i / 4) (i % 4) n
/-- seats, reserved seats and notes in range -/
def okS (c : Nat → Int32) (n : Nat) : Prop := (∀ k, k < 4 → isN (c (128 + k)) 9) ∧ (∀ i, i < 16 → isN (c (132 + i)) 5) ∧ ∀ p, p < n → oN (c (80 + p)) 4 ∧ oN (c (96 + p)) 4
theorem dN_bd {x : Int32} {b : Nat} (h : isN x b) (hb : b < 2 ^ 31) : dN x ≤ b := (h.eq hb).2
theorem ofindFree {cm : CM} {C o n : Nat} {ch : MM} (hoC : o ≠ C) (hn : n ≤ 16) (hc : ch 0 10 = nI n) (hS : okS (cm o 1) n) :
    ∃ ch', f_X0_findFree (pC cm C ch) C o = some (pC cm C ch') ∧ keeps [4, 6] ch ch' ∧ (∀ k, k < 4 → ch' 4 k = nI (frC (cm o 1) n k)) ∧ ∀ i, i < 16 → ch' 6 i = nI (fgC (cm o 1) n i) := by
  obtain ⟨h1, h2, h3⟩ := hS
  unfold f_X0_findFree
  rw [ofree1 hoC, Option.bind_some]
  dsimp only
  rw [ofree2 hoC, Option.bind_some]
  dsimp only
  have key := itr_for (step := fun s : Int32 × CM => f_X0_findFree_B61 C o s.1 s.2)
    (fun p s => s.1 = nI p ∧ ∃ ch', s.2 = pC cm C ch' ∧ keeps [4, 6] ch ch' ∧ (∀ k, k < 4 → ch' 4 k = nI (frC (cm o 1) p k)) ∧ ∀ i, i < 16 → ch' 6 i = nI (fgC (cm o 1) p i)) n (0, pC cm C (u2 (u2 ch 4 (mixf 4 (fun k => cm o 1 (128 + k)) (ch 4))) 6 (mixf 16 (fun k => cm o 1 (132 + k)) ((u2 ch 4 (mixf 4 (fun k => cm o 1 (128 + k)) (ch 4))) 6)))) (by omega) ?_ ?_ ?_
  · obtain ⟨⟨a, m'⟩, hI, h9, ch', h8, hk, k4, k6⟩ := key
    dsimp only at h8 h9
    subst h8
    rw [hI, Option.bind_some]
    exact ⟨ch', rfl, hk, k4, k6⟩
  · refine ⟨rfl, _, rfl, ((keeps.rf [4, 6] ch).up (by decide)).up (by decide), fun k hk => ?_, fun i hi => ?_⟩
    · rw [u2_n _ _ (by decide), u2_s, mix_lt _ _ hk, ((h1 k hk).eq (by omega)).1]; rfl
    · rw [u2_s, mix_lt _ _ hi, ((h2 i hi).eq (by omega)).1]; rfl
  · rintro p ⟨a, m'⟩ hp ⟨rfl, ch', rfl, hk, k4, k6⟩
    dsimp only
    unfold f_X0_findFree_B61
    rw [pC_s, hk 0 (by decide), hc, ifle (by omega) (by omega), if_neg (by omega), og_64 (by omega), pC_n _ _ hoC, Option.bind_some]
    by_cases h : cm o 1 (64 + p) = 3
    · rw [if_pos h, og_80 (by omega), og_96 (by omega), pC_n _ _ hoC, Option.bind_some, Option.bind_some]
      obtain ⟨ch2, e1, e2, e3, e4⟩ := ooccupy (cm := cm) (C := C) (ch := ch') (s := fun k => if k < 4 then frC (cm o 1) p k else 0) (r := fun i => if i < 16 then fgC (cm o 1) p i else 0) (fun k => by
        split
        · rename_i hk4
          have := dN_bd (h1 k hk4) (by omega)
          unfold frC
          omega
        · omega) (fun i => by
        split
        · rename_i hk4
          have := dN_bd (h2 i hk4) (by omega)
          unfold fgC
          omega
        · omega) (h3 p hp).1 (h3 p hp).2 (fun k hk => by rw [if_pos hk]; exact k4 k hk) (fun i hi => by rw [if_pos hi]; exact k6 i hi)
      rw [e1, Option.bind_some, nI_1]
      refine ⟨_, rfl, rfl, ch2, rfl, hk.tr e2 (by simp), fun k hk4 => ?_, fun i hi => ?_⟩
      · rw [e3 k hk4, if_pos hk4]
        unfold frC
        rw [frz_s, if_iff (show (cm o 1 (64 + p) = 3 ∧ cm o 1 (80 + p) = nI k) ↔ cm o 1 (80 + p) = nI k from ⟨fun q => q.2, fun q => ⟨h, q⟩⟩), Nat.sub_add_eq]
      · rw [e4 i hi, if_pos hi]
        unfold fgC
        rw [frg_s, if_iff (show (cm o 1 (64 + p) = 3 ∧ cm o 1 (80 + p) = nI (i / 4) ∧ cm o 1 (96 + p) = nI (i % 4)) ↔ (cm o 1 (80 + p) = nI (i / 4) ∧ cm o 1 (96 + p) = nI (i % 4)) from ⟨fun q => q.2, fun q => ⟨h, q⟩⟩), Nat.sub_add_eq]
    · rw [if_neg h, nI_1]
      refine ⟨_, rfl, rfl, ch', rfl, hk, fun k hk4 => ?_, fun i hi => ?_⟩
      · rw [k4 k hk4]
        unfold frC
        rw [frz_s, if_neg (fun q => h q.1)]; rfl
      · rw [k6 i hi]
        unfold fgC
        rw [frg_s, if_neg (fun q => h q.1)]; rfl
  · rintro ⟨a, m'⟩ ⟨rfl, ch', rfl, hk, k4, k6⟩
    dsimp only
    unfold f_X0_findFree_B61
    rw [pC_s, hk 0 (by decide), hc, ifle (by omega) (by omega), if_pos (by omega)]
