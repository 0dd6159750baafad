/-! PURE PART, base: loops, rows, numbers -/
theorem itr_succ {S O : Type} (step : S → Option (O ⊕ S)) (n : Nat) (s : S) : itr step (n + 1) s = (match step s with | none => none | some (.inl o) => some o | some (.inr s') => itr step n s') := rfl
theorem itr_seq {S O : Type} {step : S → Option (O ⊕ S)} {o : O} : ∀ (n fuel : Nat) (st : Nat → S), n < fuel → (∀ k, k < n → step (st k) = some (.inr (st (k + 1)))) → step (st n) = some (.inl o) → itr step fuel (st 0) = some o
  | 0, 0, _, h, _, _ => by omega
  | 0, f + 1, st, _, _, hx => by rw [itr_succ, hx]
  | n + 1, 0, _, h, _, _ => by omega
  | n + 1, f + 1, st, h, hs, hx => by
    rw [itr_succ, hs 0 (by omega)]
    exact itr_seq n f (fun k => st (k + 1)) (by omega) (fun k hk => hs (k + 1) (by omega)) hx
theorem itr_inv {S O : Type} {step : S → Option (O ⊕ S)} (I : Nat → S → Prop) (Q : O → Prop) (n : Nat) (hs : ∀ k s, k < n → I k s → (∃ s', step s = some (.inr s') ∧ I (k + 1) s') ∨ ∃ o, step s = some (.inl o) ∧ Q o) (hx : ∀ s, I n s → ∃ o, step s = some (.inl o) ∧ Q o) : ∀ (fuel k : Nat) (s : S), k ≤ n → n - k < fuel → I k s → ∃ o, itr step fuel s = some o ∧ Q o
  | 0, _, _, _, h, _ => by omega
  | f + 1, k, s, hk, hf, hI => by
    rw [itr_succ]
    by_cases e : k < n
    · rcases hs k s e hI with ⟨s', h1, h2⟩ | ⟨o, h1, h2⟩
      · rw [h1]
        exact itr_inv I Q n hs hx f (k + 1) s' e (by omega) h2
      · rw [h1]
        exact ⟨o, rfl, h2⟩
    · have : k = n := by omega
      subst this
      obtain ⟨o, h1, h2⟩ := hx s hI
      rw [h1]
      exact ⟨o, rfl, h2⟩
theorem itr_for {S : Type} {step : S → Option (S ⊕ S)} (I : Nat → S → Prop) (n : Nat) (s : S) (hn : n < 2000) (h0 : I 0 s) (hs : ∀ k s, k < n → I k s → ∃ s', step s = some (.inr s') ∧ I (k + 1) s') (hx : ∀ s, I n s → step s = some (.inl s)) : ∃ s', itr step 2000 s = some s' ∧ I n s' :=
  itr_inv I (I n) n (fun k s hk h => Or.inl (hs k s hk h)) (fun s h => ⟨s, hx s h, h⟩) 2000 0 s (Nat.zero_le _) (by omega) h0
/-- two loops side by side -/
theorem itr2 {S1 O1 S2 O2 : Type} {st1 : S1 → Option (O1 ⊕ S1)} {st2 : S2 → Option (O2 ⊕ S2)} (R : Nat → S1 → S2 → Prop) (Q : O1 → O2 → Prop) (n : Nat) (hs : ∀ k s1 s2, k < n → R k s1 s2 → (∃ s1' s2', st1 s1 = some (.inr s1') ∧ st2 s2 = some (.inr s2') ∧ R (k + 1) s1' s2') ∨ ∃ o1 o2, st1 s1 = some (.inl o1) ∧ st2 s2 = some (.inl o2) ∧ Q o1 o2) (hx : ∀ s1 s2, R n s1 s2 → ∃ o1 o2, st1 s1 = some (.inl o1) ∧ st2 s2 = some (.inl o2) ∧ Q o1 o2) : ∀ (fuel k : Nat) (s1 : S1) (s2 : S2), k ≤ n → n - k < fuel → R k s1 s2 → ∃ o1 o2, itr st1 fuel s1 = some o1 ∧ itr st2 fuel s2 = some o2 ∧ Q o1 o2
  | 0, _, _, _, _, h, _ => by omega
  | f + 1, k, s1, s2, hk, hf, hR => by
    rw [itr_succ, itr_succ]
    by_cases e : k < n
    · rcases hs k s1 s2 e hR with ⟨s1', s2', h1, h2, h3⟩ | ⟨o1, o2, h1, h2, h3⟩
      · rw [h1, h2]
        exact itr2 R Q n hs hx f (k + 1) s1' s2' e (by omega) h3
      · rw [h1, h2]
        exact ⟨o1, o2, rfl, rfl, h3⟩
    · have : k = n := by omega
      subst this
      obtain ⟨o1, o2, h1, h2, h3⟩ := hx s1 s2 hR
      rw [h1, h2]
      exact ⟨o1, o2, rfl, rfl, h3⟩
theorem itr2_for {S1 S2 : Type} {st1 : S1 → Option (S1 ⊕ S1)} {st2 : S2 → Option (S2 ⊕ S2)} (R : Nat → S1 → S2 → Prop) (n : Nat) (s1 : S1) (s2 : S2) (hn : n < 2000) (h0 : R 0 s1 s2) (hs : ∀ k s1 s2, k < n → R k s1 s2 → ∃ s1' s2', st1 s1 = some (.inr s1') ∧ st2 s2 = some (.inr s2') ∧ R (k + 1) s1' s2') (hx : ∀ s1 s2, R n s1 s2 → st1 s1 = some (.inl s1) ∧ st2 s2 = some (.inl s2)) : ∃ s1' s2', itr st1 2000 s1 = some s1' ∧ itr st2 2000 s2 = some s2' ∧ R n s1' s2' :=
  itr2 R (R n) n (fun k s1 s2 hk h => Or.inl (hs k s1 s2 hk h)) (fun s1 s2 h => ⟨s1, s2, (hx s1 s2 h).1, (hx s1 s2 h).2, h⟩) 2000 0 s1 s2 (Nat.zero_le _) (by omega) h0
/-- the parts that may have changed -/
def keeps (ps : List Nat) (a b : MM) : Prop := ∀ p, p ∉ ps → b p = a p
theorem keeps.rf (ps : List Nat) (a : MM) : keeps ps a a := fun _ _ => rfl
theorem keeps.up {ps : List Nat} {a b : MM} {p : Nat} {f : Nat → Int32} (h : keeps ps a b) (hp : p ∈ ps) : keeps ps a (u2 b p f) := fun q hq => by
  rw [u2_n _ _ (fun e => hq (by rw [e]; exact hp))]
  exact h q hq
theorem keeps.tr {ps qs : List Nat} {a b c : MM} (h1 : keeps ps a b) (h2 : keeps qs b c) (hs : ∀ p ∈ qs, p ∈ ps) : keeps ps a c := fun p hp => (h2 p (fun h => hp (hs p h))).trans (h1 p hp)
theorem keeps.wd {ps qs : List Nat} {a b : MM} (h : keeps ps a b) (hs : ∀ p ∈ ps, p ∈ qs) : keeps qs a b := fun p hp => h p (fun q => hp (hs p q))
theorem lit32 (n : Nat) : (OfNat.ofNat n : Int32) = nI (OfNat.ofNat n) := rfl
theorem nI_def (n : Nat) : Int32.ofNat n = nI n := rfl
theorem rd_nI {n k : Nat} (f : Nat → Int32) (h : k < n) (hn : n ≤ 4096) : rd n f (nI k) = some (f k) := by
  unfold rd
  rw [if_neg (nI_in h (by omega)), nI_clamp (by omega)]
theorem wr_nI {n k : Nat} (f : Nat → Int32) (x : Int32) (h : k < n) (hn : n ≤ 4096) : wr n f (nI k) x = some (upd f k x) := by
  unfold wr
  rw [if_neg (nI_in h (by omega)), nI_clamp (by omega)]
theorem rdL_nI {n k : Nat} (f : LM) (h : k < n) (hn : n ≤ 4096) : rdL n f (nI k) = some (f k) := by
  unfold rdL
  rw [if_neg (nI_in h (by omega)), nI_clamp (by omega)]
theorem wrL_nI {n k : Nat} (f : LM) (x : Int64) (h : k < n) (hn : n ≤ 4096) : wrL n f (nI k) x = some (vp_updL f k x) := by
  unfold wrL
  rw [if_neg (nI_in h (by omega)), nI_clamp (by omega)]
theorem m9_ne {n : Nat} (h : n < 2 ^ 31) : ¬ nI n = -9 := by
  intro e
  have : (nI n).toInt = (-9 : Int32).toInt := by rw [e]
  rw [nI_toInt h, show (-9 : Int32).toInt = -9 by decide] at this
  omega
theorem m9_ne' {n : Nat} (h : n < 2 ^ 31) : ¬ (-9 : Int32) = nI n := fun e => m9_ne h e.symm
theorem upd_s (f : Nat → Int32) (k : Nat) (x : Int32) : upd f k x k = x := by simp [upd]
theorem upd_n (f : Nat → Int32) {k j : Nat} (x : Int32) (h : j ≠ k) : upd f k x j = f j := by simp [upd, h]
theorem upd_self (f : Nat → Int32) (k : Nat) : upd f k (f k) = f := by
  funext j; by_cases h : j = k
  · subst h; exact upd_s _ _ _
  · exact upd_n _ _ h
theorem upd_upd (f : Nat → Int32) (k : Nat) (x y : Int32) : upd (upd f k x) k y = upd f k y := by
  funext j; by_cases h : j = k
  · subst h; rw [upd_s, upd_s]
  · rw [upd_n _ _ h, upd_n _ _ h, upd_n _ _ h]
/-- the first k places from a, the rest from b -/
def mixf (k : Nat) (a b : Nat → Int32) : Nat → Int32 := fun i => if i < k then a i else b i
theorem mix_0 (a b : Nat → Int32) : mixf 0 a b = b := by funext i; simp [mixf]
theorem mix_upd (k : Nat) (a b : Nat → Int32) : upd (mixf k a b) k (a k) = mixf (k + 1) a b := by
  funext i
  unfold upd mixf
  by_cases h : i = k
  · subst h; simp
  · rw [if_neg h]
    by_cases h2 : i < k
    · rw [if_pos h2, if_pos (by omega)]
    · rw [if_neg h2, if_neg (by omega)]
theorem mix_lt {k i : Nat} (a b : Nat → Int32) (h : i < k) : mixf k a b i = a i := by simp [mixf, h]
theorem mix_ge {k i : Nat} (a b : Nat → Int32) (h : ¬ i < k) : mixf k a b i = b i := by simp [mixf, h]
/-- an object's parts put into the class's memory -/
def pC (cm : CM) (C : Nat) (ch : MM) : CM := fun a => if a = C then ch else cm a
theorem pC_s (cm : CM) (C : Nat) (ch : MM) : pC cm C ch C = ch := by simp [pC]
theorem pC_n (cm : CM) {C a : Nat} (ch : MM) (h : a ≠ C) : pC cm C ch a = cm a := by simp [pC, h]
theorem pC_self (cm : CM) (C : Nat) : pC cm C (cm C) = cm := by
  funext a; by_cases h : a = C
  · subst h; exact pC_s _ _ _
  · exact pC_n _ _ h
theorem pC_pC (cm : CM) (C : Nat) (x y : MM) : pC (pC cm C x) C y = pC cm C y := by
  funext a; by_cases h : a = C
  · subst h; rw [pC_s, pC_s]
  · rw [pC_n _ _ h, pC_n _ _ h, pC_n _ _ h]
theorem u3_pC (cm : CM) (C p : Nat) (f : Nat → Int32) : u3 cm C p f = pC cm C (u2 (cm C) p f) := by
  funext a b
  unfold u3 pC u2
  by_cases h : a = C
  · subst h
    by_cases h2 : b = p
    · subst h2; simp
    · simp [h2]
  · simp [h]
theorem u3_pC' (cm : CM) (C p : Nat) (ch : MM) (f : Nat → Int32) : u3 (pC cm C ch) C p f = pC cm C (u2 ch p f) := by
  rw [u3_pC, pC_s, pC_pC]
theorem u2_app (m : MM) (p q : Nat) (f : Nat → Int32) : u2 m p f q = if q = p then f else m q := rfl
theorem u2_self (m : MM) (p : Nat) : u2 m p (m p) = m := by
  funext q; by_cases h : q = p
  · subst h; exact u2_s _ _ _
  · exact u2_n _ _ h
theorem u2_u2 (m : MM) (p : Nat) (f g : Nat → Int32) : u2 (u2 m p f) p g = u2 m p g := by
  funext q; by_cases h : q = p
  · subst h; rw [u2_s, u2_s]
  · rw [u2_n _ _ h, u2_n _ _ h, u2_n _ _ h]
/-- the least of 16 and the first k values -/
def mnf (f : Nat → Int32) : Nat → Int32
  | 0 => 16
  | k + 1 => if f k < mnf f k then f k else mnf f k
theorem mnf_congr {f g : Nat → Int32} : ∀ (k : Nat), (∀ i, i < k → f i = g i) → mnf f k = mnf g k
  | 0, _ => rfl
  | k + 1, h => by
    unfold mnf
    rw [mnf_congr k (fun i hi => h i (by omega)), h k (by omega)]
theorem ge_nI {a b : Nat} (ha : a < 2 ^ 31) (hb : b < 2 ^ 31) : (nI a ≤ nI b) = (a ≤ b) := propext (nI_leI ha hb)
theorem lt_nI {a b : Nat} (ha : a < 2 ^ 31) (hb : b < 2 ^ 31) : (nI a < nI b) = (a < b) := propext (nI_ltI ha hb)
theorem eq_nI {a b : Nat} (ha : a < 2 ^ 31) (hb : b < 2 ^ 31) : (nI a = nI b) = (a = b) := propext (nI_eq ha hb)
theorem neg_nI {a : Nat} (ha : a < 2 ^ 31) : (nI a < 0) = False := eq_false (nI_pos ha)
theorem if_iff {α : Type} {c d : Prop} [Decidable c] [Decidable d] {A B : α} (h : c ↔ d) : (if c then A else B) = if d then A else B := by
  by_cases e : d
  · rw [if_pos e, if_pos (h.mpr e)]
  · rw [if_neg e, if_neg (fun q => e (h.mp q))]
theorem ifle {α : Type} {a b : Nat} {A B : α} (ha : a < 2 ^ 31) (hb : b < 2 ^ 31) : (if nI a ≤ nI b then A else B) = if a ≤ b then A else B := if_iff (nI_leI ha hb)
theorem iflt {α : Type} {a b : Nat} {A B : α} (ha : a < 2 ^ 31) (hb : b < 2 ^ 31) : (if nI a < nI b then A else B) = if a < b then A else B := if_iff (nI_ltI ha hb)
theorem ifeq {α : Type} {a b : Nat} {A B : α} (ha : a < 2 ^ 31) (hb : b < 2 ^ 31) : (if nI a = nI b then A else B) = if a = b then A else B := if_iff (nI_eq ha hb)
/-! Row -/
theorem rowget {cm : CM} {ob pt n k : Nat} (h : k < n) (hn : n ≤ 4096) : f_X4_get cm ob pt n (nI k) = some (cm ob (pt + 1) k) := by
  unfold f_X4_get
  rw [if_neg (nI_pos (by omega)), if_neg (by rw [nI_def]; exact nI_ge h (by omega)), rd_nI _ h hn]
  rfl
theorem rowset {cm : CM} {ob pt n k : Nat} {v : Int32} (h : k < n) (hn : n ≤ 4096) : f_X4_set cm ob pt n (nI k) v = some (u3 cm ob (pt + 1) (upd (cm ob (pt + 1)) k v)) := by
  unfold f_X4_set
  rw [if_neg (nI_pos (by omega)), if_neg (by rw [nI_def]; exact nI_ge h (by omega)), wr_nI _ _ h hn]
  rfl
theorem rowadd {cm : CM} {ob pt n k : Nat} {v : Int32} (h : k < n) (hn : n ≤ 4096) : f_X4_add cm ob pt n (nI k) v = some (u3 cm ob (pt + 1) (upd (cm ob (pt + 1)) k (cm ob (pt + 1) k + v))) := by
  unfold f_X4_add
  rw [if_neg (nI_pos (by omega)), if_neg (by rw [nI_def]; exact nI_ge h (by omega)), rd_nI _ h hn]
  show Option.bind (wr _ _ _ _) _ = _
  rw [wr_nI _ _ h hn]
  rfl
/-- outside its row nothing is read, nothing written -/
theorem rowget9 {cm : CM} {ob pt n : Nat} : f_X4_get cm ob pt n (-9) = some 0 := by
  unfold f_X4_get
  rw [if_pos (by decide)]
theorem rowset9 {cm : CM} {ob pt n : Nat} {v : Int32} : f_X4_set cm ob pt n (-9) v = some cm := by
  unfold f_X4_set
  rw [if_pos (by decide)]
theorem rowfill {cm : CM} {ob pt n : Nat} {v : Int32} (hn : n < 2000) : f_X4_fill cm ob pt n v = some (u3 cm ob (pt + 1) (mixf n (fun _ => v) (cm ob (pt + 1)))) := by
  have h : itr (fun s : Int32 × CM => f_X4_fill_B2 ob pt n v s.1 s.2) 2000 (0, cm) = some (nI n, u3 cm ob (pt + 1) (mixf n (fun _ => v) (cm ob (pt + 1)))) := by
    have := itr_seq (step := fun s : Int32 × CM => f_X4_fill_B2 ob pt n v s.1 s.2) (o := (nI n, u3 cm ob (pt + 1) (mixf n (fun _ => v) (cm ob (pt + 1))))) n 2000 (fun k => (nI k, u3 cm ob (pt + 1) (mixf k (fun _ => v) (cm ob (pt + 1))))) hn ?_ ?_
    · rw [mix_0, u3_pC, u2_self, pC_self] at this
      exact this
    · intro k hk
      dsimp only
      unfold f_X4_fill_B2
      rw [if_neg (by rw [nI_def]; exact nI_ge hk (by omega)), u3_s, wr_nI _ _ hk (by omega)]
      show some (Sum.inr (nI k + 1, u3 _ _ _ (upd _ k ((fun _ => v) k)))) = _
      rw [mix_upd, u3_pC, u3_pC, u3_pC, pC_s, u2_u2, pC_pC, nI_1]
    · dsimp only
      unfold f_X4_fill_B2
      rw [if_pos (by rw [nI_def]; exact nI_le (Nat.le_refl _) (by omega))]
  unfold f_X4_fill
  rw [h]
  rfl
