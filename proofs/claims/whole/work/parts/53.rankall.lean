/-! PURE PART: Choice.rankAll puts the keys in order -/
def KA (K : Nat → Nat) (l : List Nat) (f : Nat → Int32) : Prop := ∀ i p, l[i]? = some p → f i = nI (K p)
def shf (f : Nat → Int32) (t x : Nat) : Nat → Int32 := fun i => if t < i ∧ i ≤ x then f (i - 1) else f i
theorem shf_x (f : Nat → Int32) (x : Nat) : shf f x x = f := by
  funext i
  unfold shf
  rw [if_neg (by omega)]
theorem shf_step (f : Nat → Int32) {t x : Nat} (h : t + 1 ≤ x) : upd (shf f (t + 1) x) (t + 1) (f t) = shf f t x := by
  funext i
  unfold upd shf
  by_cases e : i = t + 1
  · subst e
    rw [if_pos rfl, if_pos ⟨by omega, by omega⟩]
    rfl
  · rw [if_neg e]
    by_cases e2 : t + 1 < i ∧ i ≤ x
    · rw [if_pos e2, if_pos ⟨by omega, e2.2⟩]
    · rw [if_neg e2, if_neg (by omega)]
theorem shf_low (f : Nat → Int32) {t x i : Nat} (h : i ≤ t) : shf f t x i = f i := by
  unfold shf
  rw [if_neg (by omega)]
theorem rank_in {cm : CM} {C x : Nat} {ch : MM} {f : Nat → Int32} {K : Nat → Nat} {l : List Nat} (hl : l.length = x) (hx : x < 16) (hA : KA K l f) (hs : l.Pairwise (fun a b => K a < K b)) (hn : ∀ q ∈ l, K q ≠ K x) (hK : K x < 2 ^ 30 ∧ ∀ q ∈ l, K q < 2 ^ 30) :
    itr (fun s : Int32 × CM => f_X0_rankAll_B19 C (nI (K x)) s.1 s.2) 2000 (nI x, pC cm C (u2 ch 2 f)) = some (nI (l.countP fun q => decide (K q < K x)), pC cm C (u2 ch 2 (shf f (l.countP fun q => decide (K q < K x)) x))) := by
  obtain ⟨h1, h2⟩ := cut_ix K (K x) l hs hn
  have hj : (l.countP fun q => decide (K q < K x)) ≤ x := by rw [← hl]; exact List.countP_le_length
  generalize hje : (l.countP fun q => decide (K q < K x)) = j at h1 h2 hj
  have key := itr_seq (step := fun s : Int32 × CM => f_X0_rankAll_B19 C (nI (K x)) s.1 s.2) (o := (nI j, pC cm C (u2 ch 2 (shf f j x)))) (x - j) 2000 (fun s => (nI (x - s), pC cm C (u2 ch 2 (shf f (x - s) x)))) (by omega) ?_ ?_
  · rw [Nat.sub_zero, shf_x] at key
    exact key
  · intro s hs'
    dsimp only
    obtain ⟨t, ht⟩ : ∃ t, x - s = t + 1 := ⟨x - s - 1, by omega⟩
    rw [ht, show x - (s + 1) = t by omega]
    unfold f_X0_rankAll_B19
    have hlt : t < l.length := by omega
    have hft : f t = nI (K l[t]) := hA t _ (List.getElem?_eq_getElem hlt)
    have hgt : K x < K l[t] := h2 _ (by
      rw [List.mem_iff_getElem?]
      exact ⟨t - j, by rw [List.getElem?_drop, show j + (t - j) = t by omega]; exact List.getElem?_eq_getElem hlt⟩)
    have hb := hK.2 _ (List.getElem_mem hlt)
    have hK1 := hK.1
    have g1 : f_X4_get (pC cm C (u2 ch 2 (shf f (t + 1) x))) C 1 16 (nI (t + 1) - 1) = some (f t) := by
      rw [show nI (t + 1) - 1 = nI t from nI_pred t, rowget (by omega) (by omega), pC_s, u2_s, shf_low f (by omega)]
    rw [if_neg (nI_nle (by omega) (by omega)), g1]
    show (if f t ≤ nI (K x) then _ else _) = _
    rw [hft, ifle (by omega) (by omega), if_neg (by omega)]
    show Option.bind (f_X4_set _ _ _ _ _ _) _ = _
    rw [← hft, rowset (by omega) (by omega), pC_s, u2_s, shf_step f (by omega), u3_pC', u2_u2, pk_m1]
    rfl
  · dsimp only
    rw [show x - (x - j) = j by omega]
    unfold f_X0_rankAll_B19
    cases j with
    | zero => rw [if_pos (by decide)]
    | succ t =>
      have hlt : t < l.length := by omega
      have hft : f t = nI (K l[t]) := hA t _ (List.getElem?_eq_getElem hlt)
      have hgt : K l[t] < K x := h1 _ (by
        rw [List.mem_iff_getElem?]
        exact ⟨t, by rw [List.getElem?_take, if_pos (by omega)]; exact List.getElem?_eq_getElem hlt⟩)
      have hK1 := hK.1
      have g1 : f_X4_get (pC cm C (u2 ch 2 (shf f (t + 1) x))) C 1 16 (nI (t + 1) - 1) = some (f t) := by
        rw [show nI (t + 1) - 1 = nI t from nI_pred t, rowget (by omega) (by omega), pC_s, u2_s, shf_low f (by omega)]
      rw [if_neg (nI_nle (by omega) (by omega)), g1]
      show (if f t ≤ nI (K x) then _ else _) = _
      rw [hft, ifle (by omega) (by omega), if_pos (by omega)]
/-- the row of keys behind x steps -/
def arrR (K : Nat → Nat) (f : Nat → Int32) : Nat → (Nat → Int32)
  | 0 => f
  | x + 1 => upd (shf (arrR K f x) ((srt K x).countP fun q => decide (K q < K x)) x) ((srt K x).countP fun q => decide (K q < K x)) (nI (K x))
theorem arrR_KA (K : Nat → Nat) (f : Nat → Int32) : ∀ x, KA K (srt K x) (arrR K f x)
  | 0 => fun i p h => by simp [srt] at h
  | x + 1 => by
    have ih := arrR_KA K f x
    intro i p h
    unfold arrR
    have hl := srt_len K x
    have hj : ((srt K x).countP fun q => decide (K q < K x)) ≤ x := by
      have := List.countP_le_length (p := fun q => decide (K q < K x)) (l := srt K x)
      omega
    unfold srt insJ at h
    generalize (srt K x).countP (fun q => decide (K q < K x)) = j at *
    have hlen : ((srt K x).take j).length = j := by rw [List.length_take]; omega
    by_cases h1 : i < j
    · rw [List.getElem?_append_left (by omega), List.getElem?_take, if_pos h1] at h
      rw [upd_n _ _ (by omega), shf_low _ (by omega)]
      exact ih i p h
    · rw [List.getElem?_append_right (by omega), hlen] at h
      by_cases h2 : i = j
      · subst h2
        rw [Nat.sub_self] at h
        have : x = p := by simpa using h
        subst this
        exact upd_s _ _ _
      · obtain ⟨k, hk⟩ : ∃ k, i - j = k + 1 := ⟨i - j - 1, by omega⟩
        rw [hk, List.getElem?_cons_succ, List.getElem?_drop] at h
        have hb : j + k < x := by
          have := (List.getElem?_eq_some_iff.mp h).1
          omega
        rw [upd_n _ _ h2]
        unfold shf
        rw [if_pos ⟨by omega, by omega⟩, show i - 1 = j + k by omega]
        exact ih (j + k) p h
theorem orankAll {cm : CM} {C o n : Nat} {ch : MM} (hoC : o ≠ C) (h : okMT (cm o 1) (fun p => cm o 1 (16 + p)) n) (hn : n ≤ 16) (hc : ch 0 10 = nI n) : f_X0_rankAll (pC cm C ch) C o = some (pC cm C (u2 ch 2 (arrR (kyC (cm o 1)) (ch 2) n))) := by
  have hinj : injK (kyC (cm o 1)) n := kyN_inj h hn
  have key := itr_seq (step := fun s : Int32 × CM => f_X0_rankAll_B2 C o s.1 s.2) (o := (nI n, pC cm C (u2 ch 2 (arrR (kyC (cm o 1)) (ch 2) n)))) n 2000 (fun k => (nI k, pC cm C (u2 ch 2 (arrR (kyC (cm o 1)) (ch 2) k)))) (by omega) ?_ ?_
  · unfold f_X0_rankAll
    rw [show arrR (kyC (cm o 1)) (ch 2) 0 = ch 2 from rfl, u2_self] at key
    show Option.bind (itr _ 2000 (nI 0, pC cm C ch)) _ = _
    rw [key]
    rfl
  · intro x hx
    dsimp only
    have hpo : (pC cm C (u2 ch 2 (arrR (kyC (cm o 1)) (ch 2) x))) o = cm o := pC_n _ _ hoC
    unfold f_X0_rankAll_B2
    rw [pC_s, u2_n _ _ (by decide), hc, ifle (by omega) (by omega), if_neg (by omega)]
    rw [okey (n := n) (by rw [hpo]; exact h) hx hn, hpo]
    show Option.bind (itr _ 2000 _) _ = _
    have hin : injK (kyC (cm o 1)) x := fun p q hp hq e => hinj p q (by omega) (by omega) e
    rw [rank_in (K := kyC (cm o 1)) (l := srt (kyC (cm o 1)) x) (srt_len _ _) (by omega) (arrR_KA _ _ _) (srt_sorted hin) (fun q hq e => by
      have hq := srt_mem.mp hq
      have := hinj q x (by omega) (by omega) e
      omega) ⟨Nat.lt_of_lt_of_le (kyN_lt h hx hn) (by decide), fun q hq => by
      have hq := srt_mem.mp hq
      have : kyC (cm o 1) q < 1600000 := kyN_lt h (p := q) (by omega) hn
      omega⟩]
    show Option.bind (f_X4_set _ _ _ _ _ _) _ = _
    have hj : ((srt (kyC (cm o 1)) x).countP fun q => decide (kyC (cm o 1) q < kyC (cm o 1) x)) ≤ x := by
      have := List.countP_le_length (p := fun q => decide (kyC (cm o 1) q < kyC (cm o 1) x)) (l := srt (kyC (cm o 1)) x)
      rw [srt_len] at this
      exact this
    rw [rowset (by omega) (by omega), pC_s, u2_s, u3_pC', u2_u2, ← nI_1 x]
    rfl
  · dsimp only
    unfold f_X0_rankAll_B2
    rw [pC_s, u2_n _ _ (by decide), hc, ifle (by omega) (by omega), if_pos (by omega)]
theorem kyN_mod {a b : Nat → Int32} {p : Nat} (hp : p < 16) : kyN a b p % 16 = p := by unfold kyN; omega
/-- the class's place in the ranking -/
theorem operson {cm : CM} {C n r p : Nat} {ch : MM} {a b : Nat → Int32} (hA : KA (kyN a b) (srt (kyN a b) n) (ch 2)) (hn : n ≤ 16) (hab : okMT a b n) (h : (srt (kyN a b) n)[r]? = some p) : f_X0_personAt (pC cm C ch) C (nI r) = some (nI p) := by
  have hr : r < n := by
    have := (List.getElem?_eq_some_iff.mp h).1
    rwa [srt_len] at this
  have hp : p < n := srt_mem.mp (List.mem_of_getElem? h)
  unfold f_X0_personAt
  rw [rowget (by omega) (by omega), pC_s]
  show some (ch 2 r &&& 15) = _
  have := kyN_lt hab hp hn
  rw [hA r p h, pk_andN (by omega) 4 (by decide), show 2 ^ 4 = 16 from rfl, kyN_mod (by omega)]
