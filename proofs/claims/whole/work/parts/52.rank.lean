/-! PURE PART: the ranking -/
def cntP (P : Nat → Bool) : Nat → Nat
  | 0 => 0
  | n + 1 => cntP P n + if P n = true then 1 else 0
theorem cntP_s (P : Nat → Bool) (n : Nat) : cntP P (n + 1) = cntP P n + if P n = true then 1 else 0 := rfl
theorem cntP_le (P : Nat → Bool) : ∀ n, cntP P n ≤ n
  | 0 => Nat.le_refl _
  | n + 1 => by
    have := cntP_le P n
    rw [cntP_s]
    split <;> omega
theorem cntP_congr {P Q : Nat → Bool} : ∀ n, (∀ i, i < n → P i = Q i) → cntP P n = cntP Q n
  | 0, _ => rfl
  | n + 1, h => by
    rw [cntP_s, cntP_s, cntP_congr n (fun i hi => h i (by omega)), h n (by omega)]
theorem cntP_range (P : Nat → Bool) : ∀ n, (List.range n).countP P = cntP P n
  | 0 => rfl
  | n + 1 => by
    rw [List.range_succ, List.countP_append, cntP_range P n, cntP_s]
    cases h : P n <;> simp [h]
/-- a person put into a list that is in order by K -/
def insJ (K : Nat → Nat) (x : Nat) (l : List Nat) : List Nat := l.take (l.countP fun q => decide (K q < K x)) ++ x :: l.drop (l.countP fun q => decide (K q < K x))
def srt (K : Nat → Nat) : Nat → List Nat
  | 0 => []
  | n + 1 => insJ K n (srt K n)
theorem insJ_perm (K : Nat → Nat) (x : Nat) (l : List Nat) : (insJ K x l).Perm (x :: l) := by
  unfold insJ
  refine List.perm_middle.trans ?_
  rw [List.take_append_drop]
theorem srt_perm (K : Nat → Nat) : ∀ n, (srt K n).Perm (List.range n)
  | 0 => List.Perm.refl _
  | n + 1 => by
    unfold srt
    refine (insJ_perm K n _).trans ?_
    rw [List.range_succ]
    exact ((srt_perm K n).cons n).trans (List.perm_append_singleton n _).symm
theorem srt_len (K : Nat → Nat) (n : Nat) : (srt K n).length = n := by rw [(srt_perm K n).length_eq, List.length_range]
theorem srt_mem {K : Nat → Nat} {n p : Nat} : p ∈ srt K n ↔ p < n := by rw [(srt_perm K n).mem_iff, List.mem_range]
theorem cut_ix (K : Nat → Nat) (v : Nat) : ∀ (l : List Nat), l.Pairwise (fun a b => K a < K b) → (∀ q ∈ l, K q ≠ v) → (∀ q ∈ l.take (l.countP fun q => decide (K q < v)), K q < v) ∧ (∀ q ∈ l.drop (l.countP fun q => decide (K q < v)), v < K q)
  | [], _, _ => by simp
  | a :: t, hp, hn => by
    have hp2 := List.pairwise_cons.mp hp
    by_cases h : K a < v
    · obtain ⟨h1, h2⟩ := cut_ix K v t hp2.2 (fun q hq => hn q (List.mem_cons_of_mem _ hq))
      rw [List.countP_cons, if_pos (by simpa using h)]
      refine ⟨fun q hq => ?_, fun q hq => ?_⟩
      · rw [List.take_succ_cons] at hq
        rcases List.mem_cons.mp hq with rfl | hq
        · exact h
        · exact h1 q hq
      · rw [List.drop_succ_cons] at hq
        exact h2 q hq
    · have ha : v < K a := by have := hn a List.mem_cons_self; omega
      have h0 : (t.countP fun q => decide (K q < v)) = 0 := by
        rw [List.countP_eq_zero]
        intro q hq
        have := hp2.1 q hq
        simp; omega
      rw [List.countP_cons, if_neg (by simpa using h), h0]
      refine ⟨fun q hq => by simp at hq, fun q hq => ?_⟩
      rcases List.mem_cons.mp hq with rfl | hq
      · exact ha
      · have := hp2.1 q hq; omega
theorem insJ_sorted {K : Nat → Nat} {x : Nat} {l : List Nat} (h : l.Pairwise (fun a b => K a < K b)) (hn : ∀ q ∈ l, K q ≠ K x) : (insJ K x l).Pairwise (fun a b => K a < K b) := by
  obtain ⟨h1, h2⟩ := cut_ix K (K x) l h hn
  unfold insJ
  rw [List.pairwise_append]
  have h3 := List.pairwise_append.mp (by rw [List.take_append_drop]; exact h : (l.take (l.countP fun q => decide (K q < K x)) ++ l.drop (l.countP fun q => decide (K q < K x))).Pairwise (fun a b => K a < K b))
  refine ⟨h3.1, List.pairwise_cons.mpr ⟨h2, h3.2.1⟩, fun a ha b hb => ?_⟩
  rcases List.mem_cons.mp hb with rfl | hb
  · exact h1 a ha
  · exact h3.2.2 a ha b hb
def injK (K : Nat → Nat) (n : Nat) : Prop := ∀ p q, p < n → q < n → K p = K q → p = q
theorem srt_sorted {K : Nat → Nat} : ∀ {n : Nat}, injK K n → (srt K n).Pairwise (fun a b => K a < K b)
  | 0, _ => List.Pairwise.nil
  | n + 1, h => by
    unfold srt
    refine insJ_sorted (srt_sorted (fun p q hp hq e => h p q (by omega) (by omega) e)) (fun q hq e => ?_)
    have hq := srt_mem.mp hq
    have := h q n (by omega) (by omega) e
    omega
theorem srt_congr {K K' : Nat → Nat} : ∀ (n : Nat), (∀ p q, p < n → q < n → (K p < K q ↔ K' p < K' q)) → srt K n = srt K' n
  | 0, _ => rfl
  | n + 1, h => by
    unfold srt
    rw [srt_congr n (fun p q hp hq => h p q (by omega) (by omega))]
    unfold insJ
    have : (List.countP (fun q => decide (K q < K n)) (srt K' n)) = List.countP (fun q => decide (K' q < K' n)) (srt K' n) := by
      apply List.countP_congr
      intro q hq
      have hq := srt_mem.mp hq
      simp only [decide_eq_true_eq]
      exact h q n (by omega) (by omega)
    rw [this]
theorem sorted_ix {K : Nat → Nat} : ∀ {l : List Nat} {i p : Nat}, l.Pairwise (fun a b => K a < K b) → l[i]? = some p → l.countP (fun q => decide (K q < K p)) = i
  | [], _, _, _, h => by simp at h
  | a :: t, 0, p, hp, h => by
    have : a = p := by simpa using h
    subst this
    have hp2 := List.pairwise_cons.mp hp
    rw [List.countP_cons, if_neg (by simp), List.countP_eq_zero.mpr]
    intro q hq
    have := hp2.1 q hq
    simp; omega
  | a :: t, i + 1, p, hp, h => by
    have hp2 := List.pairwise_cons.mp hp
    have h' : t[i]? = some p := by simpa using h
    rw [List.countP_cons, sorted_ix hp2.2 h', if_pos]
    have := hp2.1 p (List.mem_of_getElem? h')
    simpa using this
/-- who stands at a place of the ranking: the one with so many ahead -/
theorem srt_at {K : Nat → Nat} {n p : Nat} (h : injK K n) (hp : p < n) : (srt K n)[cntP (fun q => decide (K q < K p)) n]? = some p := by
  obtain ⟨i, hi⟩ := List.getElem?_of_mem (srt_mem.mpr hp)
  have := sorted_ix (srt_sorted h) hi
  rw [(srt_perm K n).countP_eq, cntP_range] at this
  rw [this]; exact hi
theorem srt_nodup {K : Nat → Nat} {n : Nat} : (srt K n).Nodup := (srt_perm K n).nodup_iff.mpr List.nodup_range
/-- mark and ticket in range -/
def okMT (a b : Nat → Int32) (n : Nat) : Prop := ∀ p, p < n → (∃ m, m ≤ 99 ∧ a p = nI m) ∧ ∃ t, t ≤ 999 ∧ b p = nI t
def kyN (a b : Nat → Int32) (p : Nat) : Nat := ((99 - (a p).toNatClampNeg) * 1000 + (b p).toNatClampNeg) * 16 + p
theorem kyN_of {a b : Nat → Int32} {p m t : Nat} (h1 : a p = nI m) (h2 : b p = nI t) (hm : m ≤ 99) (ht : t ≤ 999) : kyN a b p = ((99 - m) * 1000 + t) * 16 + p := by
  unfold kyN
  rw [h1, h2, nI_clamp (by omega), nI_clamp (by omega)]
theorem kyN_lt {a b : Nat → Int32} {n p : Nat} (h : okMT a b n) (hp : p < n) (hn : n ≤ 16) : kyN a b p < 1600000 := by
  obtain ⟨⟨m, hm, h1⟩, t, ht, h2⟩ := h p hp
  rw [kyN_of h1 h2 hm ht]
  omega
theorem kyN_inj {a b : Nat → Int32} {n : Nat} (h : okMT a b n) (hn : n ≤ 16) : injK (kyN a b) n := by
  intro p q hp hq e
  obtain ⟨⟨m, hm, h1⟩, t, ht, h2⟩ := h p hp
  obtain ⟨⟨m', hm', h1'⟩, t', ht', h2'⟩ := h q hq
  rw [kyN_of h1 h2 hm ht, kyN_of h1' h2' hm' ht'] at e
  omega
/-- keys of the class: marks from place 0, tickets from place 16 -/
abbrev kyC (c : Nat → Int32) : Nat → Nat := kyN c (fun p => c (16 + p))
/-- keys of the reference -/
abbrev kyM (m : Nat → Int32) : Nat → Nat := kyN (fun p => m (8 * p)) (fun p => m (8 * p + 1))
theorem okey {cm : CM} {o n p : Nat} (h : okMT (cm o 1) (fun p => cm o 1 (16 + p)) n) (hp : p < n) (hn : n ≤ 16) : f_X3_rankKey cm o (nI p) = some (nI (kyC (cm o 1) p)) := by
  obtain ⟨⟨m, hm, h1⟩, t, ht, h2⟩ := h p hp
  unfold f_X3_rankKey
  rw [og_0 (by omega), og_16 (by omega)]
  show some _ = some _
  rw [show kyC (cm o 1) p = _ from kyN_of h1 h2 hm ht, h1, show cm o 1 (16 + p) = nI t from h2, show (99 : Int32) = nI 99 from rfl, pk_sub hm, show (1000 : Int32) = nI 1000 from rfl, pk_mul, nI_add, show (16 : Int32) = nI 16 from rfl, pk_mul, nI_add]
theorem oahead {cm : CM} {o n p q : Nat} (h : okMT (cm o 1) (fun p => cm o 1 (16 + p)) n) (hp : p < n) (hq : q < n) (hn : n ≤ 16) : f_X3_isAhead cm o (nI p) (nI q) = some (if kyC (cm o 1) p < kyC (cm o 1) q then 1 else 0) := by
  unfold f_X3_isAhead
  rw [okey h hp hn, okey h hq hn]
  have h1 : kyC (cm o 1) p < 1600000 := kyN_lt h hp hn
  have h2 : kyC (cm o 1) q < 1600000 := kyN_lt h hq hn
  show (if _ then _ else _) = _
  rw [ifle (by omega) (by omega)]
  by_cases e : kyC (cm o 1) p < kyC (cm o 1) q
  · rw [if_pos e, if_neg (by omega)]
  · rw [if_neg e, if_pos (by omega)]
theorem mahead {mm : MM} {n p q : Nat} (h : okMT (fun p => mm 1 (8 * p)) (fun p => mm 1 (8 * p + 1)) n) (hp : p < n) (hq : q < n) (hn : n ≤ 16) : f_X7_isAhead mm (nI p) (nI q) = some (if kyM (mm 1) p < kyM (mm 1) q then 1 else 0) := by
  obtain ⟨⟨m, hm, h1⟩, t, ht, h2⟩ := h p hp
  obtain ⟨⟨m', hm', h1'⟩, t', ht', h2'⟩ := h q hq
  unfold f_X7_isAhead
  rw [mo_0 (by omega), mo_0 (by omega), mo_1 (by omega), mo_1 (by omega)]
  have e1 : mm 1 (8 * p) = nI m := h1
  have e2 : mm 1 (8 * p + 1) = nI t := h2
  have e3 : mm 1 (8 * q) = nI m' := h1'
  have e4 : mm 1 (8 * q + 1) = nI t' := h2'
  simp only [Option.bind_some, e1, e2, e3, e4]
  rw [show kyM (mm 1) p = _ from kyN_of h1 h2 hm ht, show kyM (mm 1) q = _ from kyN_of h1' h2' hm' ht', ifeq (by omega) (by omega), ifeq (by omega) (by omega), ifle (by omega) (by omega), ifle (by omega) (by omega), ifle (by omega) (by omega)]
  by_cases a : m = m'
  · subst a
    rw [if_pos rfl]
    by_cases b : t = t'
    · subst b
      rw [if_pos rfl]
      by_cases d : p < q
      · rw [if_neg (by omega), if_pos (by omega)]
      · rw [if_pos (by omega), if_neg (by omega)]
    · rw [if_neg b]
      by_cases d : t < t'
      · rw [if_neg (by omega), if_pos (by omega)]
      · rw [if_pos (by omega), if_neg (by omega)]
  · rw [if_neg a]
    by_cases d : m' < m
    · rw [if_neg (by omega), if_pos (by omega)]
    · rw [if_pos (by omega), if_neg (by omega)]
theorem maheadOf {mm : MM} {n p : Nat} (h : okMT (fun p => mm 1 (8 * p)) (fun p => mm 1 (8 * p + 1)) n) (hc : mm 1 157 = nI n) (hp : p < n) (hn : n ≤ 16) : f_X7_aheadOf mm (nI p) = some (nI (cntP (fun q => decide (kyM (mm 1) q < kyM (mm 1) p)) n)) := by
  have key := itr_seq (step := fun s : Int32 × Int32 => f_X7_aheadOf_B4 mm (nI p) s.1 s.2) (o := (nI (cntP (fun q => decide (kyM (mm 1) q < kyM (mm 1) p)) n), nI n)) n 2000 (fun k => (nI (cntP (fun q => decide (kyM (mm 1) q < kyM (mm 1) p)) k), nI k)) (by omega) ?_ ?_
  · unfold f_X7_aheadOf
    rw [show (0 : Int32) = nI 0 from rfl]
    erw [key]
    rfl
  · intro k hk
    dsimp only
    unfold f_X7_aheadOf_B4
    rw [rd_157, hc]
    show (if nI n ≤ nI k then _ else _) = _
    rw [ifle (by omega) (by omega), if_neg (by omega), mahead h hk hp hn]
    show (if (if _ then (1 : Int32) else 0) = 0 then _ else _) = _
    rw [cntP_s]
    by_cases e : kyM (mm 1) k < kyM (mm 1) p
    · rw [if_pos e, if_neg (by decide), if_pos (by simpa using e), nI_1, nI_1]
    · rw [if_neg e, if_pos rfl, if_neg (by simpa using e), nI_1, show (0 : Int32) = nI 0 from rfl, nI_add]
  · dsimp only
    unfold f_X7_aheadOf_B4
    rw [rd_157, hc]
    show (if nI n ≤ nI n then _ else _) = _
    rw [ifle (by omega) (by omega), if_pos (by omega)]
theorem ocountAhead {cm : CM} {o n p : Nat} (h : okMT (cm o 1) (fun p => cm o 1 (16 + p)) n) (hc : cm o 1 158 = nI n) (hp : p < n) (hn : n ≤ 16) : f_X3_countAhead cm o (nI p) = some (nI (cntP (fun q => decide (kyC (cm o 1) q < kyC (cm o 1) p)) n)) := by
  have key := itr_seq (step := fun s : Int32 × Int32 => f_X3_countAhead_B11 cm o (nI (kyC (cm o 1) p)) s.1 s.2) (o := (nI (cntP (fun q => decide (kyC (cm o 1) q < kyC (cm o 1) p)) n), nI n)) n 2000 (fun k => (nI (cntP (fun q => decide (kyC (cm o 1) q < kyC (cm o 1) p)) k), nI k)) (by omega) ?_ ?_
  · unfold f_X3_countAhead
    rw [okey h hp hn]
    show Option.bind (itr _ 2000 (nI 0, nI 0)) _ = _
    erw [key]
    rfl
  · intro k hk
    dsimp only
    unfold f_X3_countAhead_B11
    rw [opeople, hc]
    show (if nI n ≤ nI k then _ else _) = _
    have h1 : kyC (cm o 1) p < 1600000 := kyN_lt h hp hn
    have h2 : kyC (cm o 1) k < 1600000 := kyN_lt h hk hn
    rw [ifle (by omega) (by omega), if_neg (by omega), okey h hk hn]
    show (if nI _ ≤ nI _ then _ else _) = _
    rw [ifle (by omega) (by omega)]
    rw [cntP_s]
    by_cases e : kyC (cm o 1) k < kyC (cm o 1) p
    · rw [if_neg (by omega), if_pos (by simpa using e), nI_1, nI_1]
    · rw [if_pos (by omega), if_neg (by simpa using e), nI_1]; rfl
  · dsimp only
    unfold f_X3_countAhead_B11
    rw [opeople, hc]
    show (if nI n ≤ nI n then _ else _) = _
    rw [ifle (by omega) (by omega), if_pos (by omega)]
