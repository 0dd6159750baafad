/-! PURE PART: those behind a place of the line -/
/-- how many of a list have a group beside the set s -/
def cO (gs : Nat → Int32) (l : List Nat) (s : Nat) : Nat := l.countP fun p => outB (gs p) s
theorem cO_cons (gs : Nat → Int32) (p : Nat) (l : List Nat) (s : Nat) : cO gs (p :: l) s = cO gs l s + if outB (gs p) s = true then 1 else 0 := by
  unfold cO
  rw [List.countP_cons]
theorem cO_app (gs : Nat → Int32) (a b : List Nat) (s : Nat) : cO gs (a ++ b) s = cO gs a s + cO gs b s := List.countP_append
theorem cO_le (gs : Nat → Int32) (l : List Nat) (s : Nat) : cO gs l s ≤ l.length := List.countP_le_length
theorem cO_nil (gs : Nat → Int32) (s : Nat) : cO gs [] s = 0 := rfl
theorem cO_one (gs : Nat → Int32) (p s : Nat) : cO gs [p] s = if outB (gs p) s = true then 1 else 0 := by
  rw [cO_cons, cO_nil, Nat.zero_add]
theorem drop_cons {ln : List Nat} {i p : Nat} (h : ln[i]? = some p) : ln.drop i = p :: ln.drop (i + 1) := by
  obtain ⟨h1, h2⟩ := List.getElem?_eq_some_iff.mp h
  rw [List.drop_eq_getElem_cons h1, h2]
theorem m1_sub (x : Int32) : x + (-1) = x - 1 := by rw [Int32.sub_eq_add_neg]
theorem mbehind {mm : MM} {n : Nat} {ln : List Nat} (hL : okL ln n) (h0 : mm 0 14 = nI ln.length) (h11 : ∀ i p, ln[i]? = some p → mm 11 i = nI p) :
    ∃ mm', f_X7_findBehind mm = some mm' ∧ keeps [15] mm mm' ∧ ∀ i, i ≤ ln.length → ∀ s, s < 16 → mm' 15 (16 * i + s) = nI (cO (fun p => mm 1 (8 * p + 3)) (ln.drop i) s) := by
  have hn := hL.1
  have hl := hL.2.1
  generalize hgs : (fun p => mm 1 (8 * p + 3)) = gs
  unfold f_X7_findBehind
  have key := itr_for (step := fun s : Int32 × MM => f_X7_findBehind_B2 s.1 s.2)
    (fun k s => s.1 = nI k ∧ keeps [15] mm s.2 ∧ ∀ i, i ≤ ln.length → ∀ j, j < k → s.2 15 (16 * i + j) = nI (cO gs (ln.drop i) j)) 16 (0, mm) (by omega) ⟨rfl, keeps.rf _ _, fun i hi j hj => by omega⟩ ?_ ?_
  · obtain ⟨⟨a, m'⟩, hI, -, hk1, k15⟩ := key
    rw [hI, Option.bind_some]
    exact ⟨m', rfl, hk1, k15⟩
  · rintro k ⟨a, m'⟩ hk ⟨h9, hkp, k15⟩
    dsimp only at h9 hkp k15
    subst h9
    dsimp only
    have key2 := itr_for (step := fun s : Int32 × MM => f_X7_findBehind_B30 (nI k) s.1 s.2)
      (fun t s => s.1 = nI (ln.length - t) - 1 ∧ keeps [15] mm s.2 ∧ (∀ i, i ≤ ln.length → ∀ j, j < k → s.2 15 (16 * i + j) = nI (cO gs (ln.drop i) j)) ∧ ∀ i, ln.length - t ≤ i → i ≤ ln.length → s.2 15 (16 * i + k) = nI (cO gs (ln.drop i) k)) ln.length (nI ln.length - 1, u2 m' 15 (upd (m' 15) (16 * ln.length + k) 0)) (by omega) ⟨by rw [Nat.sub_zero], hkp.up (by decide), fun i hi j hj => by dsimp only; rw [u2_s, upd_n _ _ (by omega)]; exact k15 i hi j hj, fun i h1 h2 => by
        have : i = ln.length := by omega
        subst this
        dsimp only
        rw [u2_s, upd_s, List.drop_length]; rfl⟩ ?_ ?_
    · obtain ⟨⟨a2, m2⟩, hI2, -, hk2, k2, k3⟩ := key2
      dsimp only at hk2 k2 k3
      refine ⟨(nI (k + 1), m2), ?_, rfl, hk2, fun i hi j hj => ?_⟩
      · unfold f_X7_findBehind_B2
        rw [show (16 : Int32) = nI 16 from rfl, ifle (by omega) (by omega), if_neg (by omega), hkp 0 (by decide), h0, pk_mul, nI_add, wr_nI _ _ (by omega) (by omega), Option.bind_some, u2_n (p := 15) (b := 0) _ _ (by decide), hkp 0 (by decide), h0, hI2, Option.bind_some, nI_1]
      · by_cases e : j = k
        · subst e; exact k3 i (by omega) hi
        · exact k2 i hi j (by omega)
    · rintro t ⟨a2, m2⟩ ht ⟨h9, hk2, k2, k3⟩
      dsimp only at h9 hk2 k2 k3
      subst h9
      obtain ⟨i, hi⟩ : ∃ i, ln.length - t = i + 1 := ⟨ln.length - t - 1, by omega⟩
      have hil : i < ln.length := by omega
      have hp := List.getElem?_eq_getElem hil
      generalize ln[i] = p at hp
      have hpn : p < n := hL.2.2.2 p (List.mem_of_getElem? hp)
      have e1 : m2 15 (16 * i + 16 + k) = nI (cO gs (ln.drop (i + 1)) k) := by
        rw [show 16 * i + 16 + k = 16 * (i + 1) + k by omega]
        exact k3 (i + 1) (by omega) (by omega)
      have e2 : cO gs (ln.drop i) k = cO gs (ln.drop (i + 1)) k + if outB (gs p) k = true then 1 else 0 := by rw [drop_cons hp, cO_cons]
      refine ⟨(nI (ln.length - (t + 1)) - 1, u2 m2 15 (upd (m2 15) (16 * i + k) (nI (cO gs (ln.drop i) k)))), ?_, rfl, hk2.up (by decide), fun i' hi' j hj => ?_, fun i' h1 h2 => ?_⟩
      · dsimp only
        unfold f_X7_findBehind_B30
        have egs : mm 1 (8 * p + 3) = gs p := by rw [← hgs]
        rw [hi, show nI (i + 1) - 1 = nI i from nI_pred i, if_neg (nI_pos (by omega)), rd_nI _ (by omega) (by omega), Option.bind_some, hk2 11 (by decide), h11 i p hp, mo_3 (by omega), Option.bind_some, hk2 1 (by decide), egs, show (16 : Int32) = nI 16 from rfl, pk_mul, nI_add, nI_add, nI_add, rd_nI _ (by omega) (by omega), e1, m1_sub, show ln.length - (t + 1) = i by omega]
        by_cases h : (gs p &&& (nI k ^^^ (-1))) = 0
        · rw [if_pos h, Option.bind_some, Option.bind_some, if_pos rfl, e2, if_neg (outB_f h), show (0 : Int32) = nI 0 from rfl, nI_add, wr_nI _ _ (by omega) (by omega), Option.bind_some]
        · rw [if_neg h, Option.bind_some, Option.bind_some, if_neg (by decide), e2, if_pos (outB_t h), nI_1, wr_nI _ _ (by omega) (by omega), Option.bind_some]
      · dsimp only
        rw [u2_s, upd_n _ _ (by omega)]; exact k2 i' hi' j hj
      · dsimp only
        rw [u2_s]
        by_cases e : i' = i
        · subst e; exact upd_s _ _ _
        · rw [upd_n _ _ (by omega)]; exact k3 i' (by omega) h2
    · rintro ⟨a, m2⟩ ⟨h9, -⟩
      dsimp only at h9
      subst h9
      dsimp only
      unfold f_X7_findBehind_B30
      rw [if_pos (by rw [Nat.sub_self]; decide)]
  · rintro ⟨a, m'⟩ ⟨h9, -⟩
    dsimp only at h9
    subst h9
    dsimp only
    unfold f_X7_findBehind_B2
    rw [if_pos (by decide)]
/-! the least cut as a number -/
def mnN (f : Nat → Nat) : Nat → Nat
  | 0 => 16
  | k + 1 => if f k < mnN f k then f k else mnN f k
theorem mnN_s (f : Nat → Nat) (k : Nat) : mnN f (k + 1) = if f k < mnN f k then f k else mnN f k := rfl
theorem mnN_le16 (f : Nat → Nat) : ∀ k, mnN f k ≤ 16
  | 0 => Nat.le_refl _
  | k + 1 => by
    have := mnN_le16 f k
    rw [mnN_s]
    split <;> omega
theorem mnf_nI {F : Nat → Int32} {f : Nat → Nat} : ∀ k, (∀ s, s < k → F s = nI (f s) ∧ f s < 2 ^ 30) → mnf F k = nI (mnN f k)
  | 0, _ => rfl
  | k + 1, h => by
    obtain ⟨h1, h2⟩ := h k (by omega)
    have h3 := mnN_le16 f k
    unfold mnf
    rw [mnf_nI k (fun s hs => h s (by omega)), h1, mnN_s, iflt (by omega) (by omega)]
    split <;> rfl
theorem mnN_le (f : Nat → Nat) : ∀ {k s : Nat}, s < k → mnN f k ≤ f s
  | 0, s, h => by omega
  | k + 1, s, h => by
    rw [mnN_s]
    by_cases e : s = k
    · subst e; split <;> omega
    · have := mnN_le f (k := k) (s := s) (by omega)
      split <;> omega
theorem mnN_ge {f : Nat → Nat} {b : Nat} (hb : b ≤ 16) : ∀ {k : Nat}, (∀ s, s < k → b ≤ f s) → b ≤ mnN f k
  | 0, _ => hb
  | k + 1, h => by
    have := mnN_ge hb (k := k) (fun s hs => h s (by omega))
    have := h k (by omega)
    rw [mnN_s]
    split <;> omega
theorem mnN_at {f : Nat → Nat} : ∀ {k : Nat}, mnN f k < 16 → ∃ s, s < k ∧ mnN f k = f s
  | 0, h => by simp [mnN] at h
  | k + 1, h => by
    rw [mnN_s] at h ⊢
    by_cases e : f k < mnN f k
    · rw [if_pos e]; exact ⟨k, by omega, rfl⟩
    · rw [if_neg e] at h ⊢
      obtain ⟨s, h1, h2⟩ := mnN_at h
      exact ⟨s, by omega, h2⟩
theorem mnN_congr {f g : Nat → Nat} : ∀ {k : Nat}, (∀ s, s < k → f s = g s) → mnN f k = mnN g k
  | 0, _ => rfl
  | k + 1, h => by rw [mnN_s, mnN_s, mnN_congr (k := k) (fun s hs => h s (by omega)), h k (by omega)]
/-- how many of the list T can be counted: the least cut; r: what each set of groups has -/
def fil (gs : Nat → Int32) (r : Nat → Nat) (T : List Nat) : Nat := mnN (fun s => r s + cO gs T s) 16
/-! sets of groups: union and section -/
theorem set_or : ∀ a, a < 16 → ∀ b, b < 16 → a ||| b < 16 ∧ a &&& b < 16 := by decide +kernel
theorem set_bt : ∀ a, a < 16 → ∀ b, b < 16 → ∀ g, g < 4 → bt (nI (a ||| b)) g = (bt (nI a) g || bt (nI b) g) ∧ bt (nI (a &&& b)) g = (bt (nI a) g && bt (nI b) g) := by decide +kernel
theorem set_out0 : ∀ x, x < 16 → ∀ a, a < 16 → ∀ b, b < 16 → ((!outB (nI x) (a ||| b) || (outB (nI x) a && outB (nI x) b)) && (!outB (nI x) (a &&& b) || (outB (nI x) a || outB (nI x) b))) = true := by decide +kernel
theorem set_out : ∀ x, x < 16 → ∀ a, a < 16 → ∀ b, b < 16 → (outB (nI x) (a ||| b) = true → outB (nI x) a = true ∧ outB (nI x) b = true) ∧ (outB (nI x) (a &&& b) = true → outB (nI x) a = true ∨ outB (nI x) b = true) := by
  intro x hx a ha b hb
  have h := set_out0 x hx a ha b hb
  cases ca : outB (nI x) a <;> cases cb : outB (nI x) b <;> cases cc : outB (nI x) (a ||| b) <;> cases cd : outB (nI x) (a &&& b) <;> simp_all
theorem rsS_mod (f : Nat → Nat) {a b : Nat} (ha : a < 16) (hb : b < 16) : ∀ g, g ≤ 4 → rsS f (a ||| b) g + rsS f (a &&& b) g = rsS f a g + rsS f b g
  | 0, _ => rfl
  | g + 1, h => by
    have ih := rsS_mod f ha hb g (by omega)
    obtain ⟨h1, h2⟩ := set_bt a ha b hb g (by omega)
    rw [rsS_s, rsS_s, rsS_s, rsS_s, h1, h2]
    cases bt (nI a) g <;> cases bt (nI b) g <;> simp <;> omega
/-- groups in range -/
def okG (gs : Nat → Int32) (l : List Nat) : Prop := ∀ p ∈ l, ∃ x, x < 16 ∧ gs p = nI x
theorem cO_sub {gs : Nat → Int32} {a b : Nat} (ha : a < 16) (hb : b < 16) : ∀ (l : List Nat), okG gs l → cO gs l (a ||| b) + cO gs l (a &&& b) ≤ cO gs l a + cO gs l b
  | [], _ => Nat.le_refl _
  | p :: l, h => by
    have ih := cO_sub ha hb l (fun q hq => h q (List.mem_cons_of_mem _ hq))
    obtain ⟨x, hx, e⟩ := h p List.mem_cons_self
    obtain ⟨h1, h2⟩ := set_out x hx a ha b hb
    rw [cO_cons, cO_cons, cO_cons, cO_cons, e]
    cases ca : outB (nI x) a <;> cases cb : outB (nI x) b <;> cases cc : outB (nI x) (a ||| b) <;> cases cd : outB (nI x) (a &&& b) <;> simp_all <;> omega
theorem cO_mono {gs : Nat → Int32} {a b : Nat} (ha : a < 16) (hb : b < 16) : ∀ (l : List Nat), okG gs l → cO gs l (a ||| b) ≤ cO gs l b
  | [], _ => Nat.le_refl _
  | p :: l, h => by
    have ih := cO_mono ha hb l (fun q hq => h q (List.mem_cons_of_mem _ hq))
    obtain ⟨x, hx, e⟩ := h p List.mem_cons_self
    obtain ⟨h1, -⟩ := set_out x hx a ha b hb
    rw [cO_cons, cO_cons, e]
    cases cc : outB (nI x) (a ||| b)
    · simp; omega
    · rw [(h1 cc).2]; simp; omega
theorem fil_mono {gs : Nat → Int32} {r : Nat → Nat} (a b : List Nat) : fil gs r a ≤ fil gs r (a ++ b) := by
  unfold fil
  refine mnN_ge (mnN_le16 _ _) (fun s hs => ?_)
  have := mnN_le (fun s => r s + cO gs a s) hs
  rw [cO_app]
  omega
theorem fil_add {gs : Nat → Int32} {r : Nat → Nat} (a b : List Nat) : fil gs r (a ++ b) ≤ fil gs r a + b.length := by
  by_cases h : fil gs r a < 16
  · obtain ⟨s, h1, h2⟩ := mnN_at h
    have h3 := mnN_le (fun s => r s + cO gs (a ++ b) s) h1
    have h4 := cO_le gs b s
    rw [cO_app] at h3
    unfold fil
    rw [h2]
    omega
  · have := mnN_le16 (fun s => r s + cO gs (a ++ b) s) 16
    unfold fil at h ⊢
    omega
theorem fil_len {gs : Nat → Int32} {f : Nat → Nat} (T : List Nat) : fil gs (fun s => rsS f s 4) T ≤ T.length := by
  have h : fil gs (fun s => rsS f s 4) T ≤ rsS f 0 4 + cO gs T 0 := mnN_le (fun s => rsS f s 4 + cO gs T s) (k := 16) (s := 0) (by omega)
  have h2 := cO_le gs T 0
  have h3 : rsS f 0 4 = 0 := rfl
  omega
/-- who does not raise the fill of T doesn't raise that of a greater set -/
theorem fil_span {gs : Nat → Int32} {f : Nat → Nat} {T R : List Nat} {p : Nat} (hT : okG gs T) (hR : okG gs R) (hlen : T.length ≤ 15) (hp : ∃ x, x < 16 ∧ gs p = nI x) (h : fil gs (fun s => rsS f s 4) (T ++ [p]) = fil gs (fun s => rsS f s 4) T) : fil gs (fun s => rsS f s 4) (T ++ [p] ++ R) ≤ fil gs (fun s => rsS f s 4) (T ++ R) := by
  have hl := fil_len (gs := gs) (f := f) T
  by_cases hb : fil gs (fun s => rsS f s 4) (T ++ R) < 16
  · obtain ⟨s1, a1, a2⟩ := mnN_at (f := fun s => rsS f s 4 + cO gs (T ++ [p]) s) (k := 16) (show fil gs (fun s => rsS f s 4) (T ++ [p]) < 16 by omega)
    obtain ⟨s2, b1, b2⟩ := mnN_at hb
    have e1 : fil gs (fun s => rsS f s 4) T = rsS f s1 4 + cO gs (T ++ [p]) s1 := by rw [← h]; exact a2
    have e2 : fil gs (fun s => rsS f s 4) (T ++ R) = rsS f s2 4 + cO gs (T ++ R) s2 := b2
    have m1 : fil gs (fun s => rsS f s 4) T ≤ rsS f s1 4 + cO gs T s1 := mnN_le (fun s => rsS f s 4 + cO gs T s) a1
    rw [cO_app, cO_one] at e1
    have hp0 : outB (gs p) s1 = false := by
      cases hq : outB (gs p) s1
      · rfl
      · rw [hq, if_pos rfl] at e1; omega
    rw [hp0, if_neg (by decide)] at e1
    obtain ⟨u1, u2⟩ := set_or s1 a1 s2 b1
    have m2 : fil gs (fun s => rsS f s 4) T ≤ rsS f (s1 &&& s2) 4 + cO gs T (s1 &&& s2) := mnN_le (fun s => rsS f s 4 + cO gs T s) u2
    have m3 := rsS_mod f a1 b1 4 (Nat.le_refl _)
    have m4 := cO_sub a1 b1 T hT
    have m5 := cO_mono a1 b1 R hR
    have m6 : fil gs (fun s => rsS f s 4) (T ++ [p] ++ R) ≤ rsS f (s1 ||| s2) 4 + cO gs (T ++ [p] ++ R) (s1 ||| s2) := mnN_le (fun s => rsS f s 4 + cO gs (T ++ [p] ++ R) s) u1
    have hp1 : outB (gs p) (s1 ||| s2) = false := by
      obtain ⟨x, hx, e⟩ := hp
      rw [e] at hp0 ⊢
      cases hq : outB (nI x) (s1 ||| s2)
      · rfl
      · rw [((set_out x hx s1 a1 s2 b1).1 hq).1] at hp0; cases hp0
    rw [cO_app, cO_app, cO_one, hp1, if_neg (by decide)] at m6
    rw [cO_app] at e2
    omega
  · have : fil gs (fun s => rsS f s 4) (T ++ [p] ++ R) ≤ 16 := mnN_le16 (fun s => rsS f s 4 + cO gs (T ++ [p] ++ R) s) 16
    omega
