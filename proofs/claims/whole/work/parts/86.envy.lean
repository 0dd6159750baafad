/-! PURE PART: envy -/
def sumN (f : Nat → Nat) : Nat → Nat
  | 0 => 0
  | n + 1 => sumN f n + f n
theorem sumN_s (f : Nat → Nat) (n : Nat) : sumN f (n + 1) = sumN f n + f n := rfl
theorem sumN_congr {f g : Nat → Nat} : ∀ n, (∀ i, i < n → f i = g i) → sumN f n = sumN g n
  | 0, _ => rfl
  | n + 1, h => by rw [sumN_s, sumN_s, sumN_congr n (fun i hi => h i (by omega)), h n (by omega)]
theorem sumN_0 : ∀ n, sumN (fun _ => 0) n = 0
  | 0 => rfl
  | n + 1 => by rw [sumN_s, sumN_0 n]
theorem sumN_add (f g : Nat → Nat) : ∀ n, sumN (fun i => f i + g i) n = sumN f n + sumN g n
  | 0 => rfl
  | n + 1 => by rw [sumN_s, sumN_s, sumN_s, sumN_add f g n]; omega
theorem sumN_swap (f : Nat → Nat → Nat) (m : Nat) : ∀ n, sumN (fun i => sumN (fun j => f i j) m) n = sumN (fun j => sumN (fun i => f i j) n) m
  | 0 => (sumN_0 m).symm
  | n + 1 => by
    rw [sumN_s, sumN_swap f m n, ← sumN_add]
    rfl
def b2n (b : Bool) : Nat := if b = true then 1 else 0
theorem perm_q {L : List Nat} {q : Nat} (h : q ∈ L) : L.Perm (L.erase q ++ [q]) := (List.perm_cons_erase h).trans (List.perm_append_comm (l₁ := [q]) (l₂ := L.erase q))
theorem len_q {L : List Nat} {q : Nat} (h : q ∈ L) (hl : L.length ≤ 16) : (L.erase q).length ≤ 15 := by
  have := List.length_erase_of_mem h
  omega
theorem hop_btw {c m : Nat → Int32} {n k p : Nat} {rk : List Nat} {fr fg : Nat → Nat} {ch mm : MM} (hs : SR c m n rk fr fg ch mm) (hr : RW n ch mm) (hk : k < 4) (hp : p < n) (hn : n ≤ 16) : (bt (ch 8 k &&& (ch 0 11 ^^^ (-1))) p = true) ↔ hopB c (mm 8) k p = true := by
  rw [bt_not (by omega), Bool.and_eq_true, hs.2.2.2.2.2 k hk p (by omega)]
  have := (hr.1 p hp).2.2.2.2
  unfold hopB
  rw [Bool.and_eq_true, cnB_iff, decide_eq_true_eq]
  constructor
  · rintro ⟨⟨-, h1⟩, h2⟩
    refine ⟨h1, ?_⟩
    by_cases e : mm 8 p = -9
    · exact e
    · rw [this.mpr e] at h2; simp at h2
  · rintro ⟨h1, h2⟩
    refine ⟨⟨hp, h1⟩, ?_⟩
    cases hb : bt (ch 0 11) p
    · rfl
    · exact absurd h2 (this.mp hb)
/-- one pair -/
def Xp (m : Nat → Int32) (gs : Nat → Int32) (f : Nat → Nat) (H : Nat → Bool) (G : Nat) (T : List Nat) (q p : Nat) : Bool := H p && (decide (kyM m p < kyM m q) && decide (G ≤ fil gs (fun s => rsS f s 4) (T ++ [p])))
theorem oenvious {cm : CM} {m : Nat → Int32} {n k q G : Nat} {gs : Nat → Int32} {f : Nat → Nat} {H : Nat → Bool} {T : List Nat} {ch : MM} (l : lay (cm 1 1) m) (V : VM m n) (hk : k < 4) (hq : q < n) (hg : ∀ p, p < n → cm 1 1 (48 + p) = gs p) (hf : f5 f) (hT : T.length ≤ 15) (hG : G ≤ 16) (hc : cm 27 0 10 = nI n) (hH : ∀ p, p < n → (bt (cm 27 8 k &&& (cm 27 0 11 ^^^ (-1))) p = true ↔ H p = true)) (k0 : keeps [18, 20] (cm 27) ch) (hC : TLc gs f T ch) :
    ∃ ch', f_X0_countEnvious (pC cm 27 ch) 27 1 (nI k) (nI q) (nI G) = some (nI (sumN (fun p => b2n (Xp m gs f H G T q p)) n), pC cm 27 ch') ∧ keeps [18, 20] (cm 27) ch' ∧ TLc gs f T ch' := by
  have hn := V.2.1
  have e1 : ∀ x : MM, pC cm 27 x 1 = cm 1 := fun x => pC_n _ _ (by decide)
  have key := itr_for (step := fun s : Int32 × Int32 × CM => f_X0_countEnvious_B13 27 1 (nI q) (nI G) (cm 27 8 k &&& (cm 27 0 11 ^^^ (-1))) s.1 s.2.1 s.2.2)
    (fun p s => ∃ ch', s = (nI (sumN (fun p => b2n (Xp m gs f H G T q p)) p), nI p, pC cm 27 ch') ∧ keeps [18, 20] (cm 27) ch' ∧ TLc gs f T ch') n (0, 0, pC cm 27 ch) (by omega) ⟨ch, rfl, k0, hC⟩ ?_ ?_
  · obtain ⟨s, i1, ch', rfl, i2, i3⟩ := key
    refine ⟨ch', ?_, i2, i3⟩
    unfold f_X0_countEnvious
    rw [owithout hk, Option.bind_some, k0 8 (by decide), k0 0 (by decide), i1, Option.bind_some]
  · rintro p s hp ⟨ch1, rfl, k1, h1⟩
    dsimp only
    unfold f_X0_countEnvious_B13
    rw [pC_s, k1 0 (by decide), hc, ifle (by omega) (by omega), if_neg (by omega), bit1 (by omega), if11, nI_1, sumN_s]
    by_cases hb : H p = true
    · rw [if_pos ((hH p hp).mpr hb), oahead (n := n) (by rw [e1]; exact lay_mt l V) hp hq hn, e1, lay_ky l (show p < 16 by omega), lay_ky l (show q < 16 by omega), Option.bind_some, if10]
      by_cases ha : kyM m p < kyM m q
      · rw [if_pos ha, og_48 (by omega), e1, hg p hp, Option.bind_some]
        obtain ⟨ch2, a1, a2, a3⟩ := TLc_add (cm := cm) (C := 27) (p := p) h1
        obtain ⟨ch3, b1, b2, b3⟩ := TLc_sub (cm := cm) (C := 27) (p := p) a3
        have hlen : (T ++ [p]).length ≤ 16 := by rw [List.length_append]; simp; omega
        have hfl := fil16 gs (fun s => rsS f s 4) (T ++ [p])
        rw [a1, Option.bind_some, TLc_fill hf hlen a3, Option.bind_some, og_48 (by omega), e1, hg p hp, iflt (by omega) (by omega)]
        have hk3 : keeps [18, 20] (cm 27) ch3 := (k1.tr a2 (by decide)).tr b2 (by decide)
        by_cases hx : fil gs (fun s => rsS f s 4) (T ++ [p]) < G
        · rw [if_pos hx, Option.bind_some, Option.bind_some, b1, Option.bind_some]
          have : Xp m gs f H G T q p = false := by unfold Xp; rw [decide_eq_false (show ¬ G ≤ fil gs (fun s => rsS f s 4) (T ++ [p]) by omega), Bool.and_false, Bool.and_false]
          rw [this]
          exact ⟨_, rfl, ch3, rfl, hk3, b3⟩
        · rw [if_neg hx, Option.bind_some, Option.bind_some, b1, Option.bind_some, nI_1]
          have : Xp m gs f H G T q p = true := by unfold Xp; rw [hb, decide_eq_true ha, decide_eq_true (show G ≤ fil gs (fun s => rsS f s 4) (T ++ [p]) by omega)]; rfl
          rw [this]
          exact ⟨_, rfl, ch3, rfl, hk3, b3⟩
      · have : Xp m gs f H G T q p = false := by unfold Xp; rw [decide_eq_false ha, Bool.false_and, Bool.and_false]
        rw [if_neg ha, this]
        exact ⟨_, rfl, ch1, rfl, k1, h1⟩
    · have : Xp m gs f H G T q p = false := by
        unfold Xp
        cases h : H p
        · exact Bool.false_and _
        · exact absurd h hb
      rw [if_neg (fun q => hb ((hH p hp).mp q)), this]
      exact ⟨_, rfl, ch1, rfl, k1, h1⟩
  · rintro s ⟨ch1, rfl, k1, h1⟩
    dsimp only
    unfold f_X0_countEnvious_B13
    rw [pC_s, k1 0 (by decide), hc, ifle (by omega) (by omega), if_pos (by omega)]
/-- one pair of one kind -/
def Xk (c m : Nat → Int32) (fg : Nat → Nat) (n : Nat) (mm : MM) (k q p : Nat) : Bool := tkB mm k q && Xp m (fun p => m (8 * p + 3)) (fun g => fg (4 * k + g)) (hopB c (mm 8) k) (fil (fun p => m (8 * p + 3)) (fun s => rsS (fun g => fg (4 * k + g)) s 4) ((List.range n).filter (tkB mm k))) (((List.range n).filter (tkB mm k)).erase q) q p
theorem oenvy_k {cm : CM} {m : Nat → Int32} {n k : Nat} {rk : List Nat} {fr fg : Nat → Nat} {mm : MM} (l : lay (cm 1 1) m) (V : VM m n) (hS : SR (cm 1 1) m n rk fr fg (cm 27) mm) (hW : RW n (cm 27) mm) (hk : k < 4) :
    ∃ ch', f_X0_countEnvy cm 27 1 (nI k) = some (nI (sumN (fun q => sumN (fun p => b2n (Xk (cm 1 1) m fg n mm k q p)) n) n), pC cm 27 ch') ∧ keeps [18, 20] (cm 27) ch' := by
  have hn := V.2.1
  have hG := (OF_of l V).2.1
  obtain ⟨ch0, mm0, a1, a2, a3, -, -, a6, -, a8⟩ := fill_2 (cm := cm) (C := 27) (o := 1) (k := k) (by decide) hG hS hW hk
  have hlen : ((List.range n).filter (tkB mm k)).length ≤ 16 := len_fil (by rw [List.length_range]; exact hn)
  have hB := tkB_w (k := k) hW
  have key := itr_for (step := fun s : Int32 × Int32 × CM => f_X0_countEnvy_B20 27 1 (nI k) (nI (fil (fun p => m (8 * p + 3)) (fun s => rsS (fun g => fg (4 * k + g)) s 4) ((List.range n).filter (tkB mm k)))) s.1 s.2.1 s.2.2)
    (fun q s => ∃ ch', s = (nI (sumN (fun q => sumN (fun p => b2n (Xk (cm 1 1) m fg n mm k q p)) n) q), nI q, pC cm 27 ch') ∧ keeps [18, 20] (cm 27) ch' ∧ TLc (fun p => m (8 * p + 3)) (fun g => fg (4 * k + g)) ((List.range n).filter (tkB mm k)) ch') n (0, 0, pC cm 27 ch0) (by omega) ⟨ch0, rfl, a3, a6⟩ ?_ ?_
  · obtain ⟨s, i1, ch', rfl, i2, i3⟩ := key
    refine ⟨ch', ?_, i2⟩
    unfold f_X0_countEnvy
    rw [a1, Option.bind_some, a2, Option.bind_some, i1, Option.bind_some]
  · rintro q s hq ⟨ch1, rfl, k1, h1⟩
    have e1 : ∀ x : MM, pC cm 27 x 1 = cm 1 := fun x => pC_n _ _ (by decide)
    dsimp only
    unfold f_X0_countEnvy_B20
    rw [pC_s, k1 0 (by decide), hS.1, ifle (by omega) (by omega), if_neg (by omega), oisTaken (by omega), k1 10 (by decide), k1 14 (by decide), Option.bind_some, if10, nI_1, sumN_s]
    by_cases hb : tkB mm k q = true
    · have hmem : q ∈ (List.range n).filter (tkB mm k) := List.mem_filter.mpr ⟨List.mem_range.mpr hq, hb⟩
      have eg : cm 1 1 (48 + q) = (fun p => m (8 * p + 3)) q := (hG.2.2.1 q hq).2.1
      obtain ⟨ch2, b1, b2, b3⟩ := TLc_sub (cm := cm) (C := 27) (p := q) (h1.pm (perm_q hmem))
      obtain ⟨ch3, c1, c2, c3⟩ := oenvious (G := fil (fun p => m (8 * p + 3)) (fun s => rsS (fun g => fg (4 * k + g)) s 4) ((List.range n).filter (tkB mm k))) l V hk hq (fun p hp => (hG.2.2.1 p hp).2.1) a8 (len_q hmem hlen) (fil16 _ _ _) hS.1 (fun p hp => hop_btw hS hW hk hp hn) (k1.tr b2 (by decide)) b3
      obtain ⟨ch4, d1, d2, d3⟩ := TLc_add (cm := cm) (C := 27) (p := q) c3
      rw [if_pos ((hB q hq).mpr hb), og_48 (by omega), e1, eg, Option.bind_some, b1, Option.bind_some, c1, Option.bind_some]
      dsimp only
      rw [og_48 (by omega), e1, show cm 1 1 (48 + q) = m (8 * q + 3) from eg, Option.bind_some]
      rw [show f_X5_add (pC cm 27 ch3) 27 (m (8 * q + 3)) 1 = some (pC cm 27 ch4) from d1, Option.bind_some, nI_add]
      refine ⟨_, rfl, ch4, ?_, c2.tr d2 (by decide), d3.pm (perm_q hmem).symm⟩
      have : ∀ p, Xk (cm 1 1) m fg n mm k q p = Xp m (fun p => m (8 * p + 3)) (fun g => fg (4 * k + g)) (hopB (cm 1 1) (mm 8) k) (fil (fun p => m (8 * p + 3)) (fun s => rsS (fun g => fg (4 * k + g)) s 4) ((List.range n).filter (tkB mm k))) (((List.range n).filter (tkB mm k)).erase q) q p := fun p => by
        unfold Xk
        rw [hb, Bool.true_and]
      simp only [this]
    · have : ∀ p, Xk (cm 1 1) m fg n mm k q p = false := fun p => by
        unfold Xk
        cases h : tkB mm k q
        · exact Bool.false_and _
        · exact absurd h hb
      rw [if_neg (fun q => hb ((hB _ hq).mp q))]
      refine ⟨_, rfl, ch1, ?_, k1, h1⟩
      simp only [this]
      rw [show b2n false = 0 from rfl, sumN_0]
      rfl
  · rintro s ⟨ch1, rfl, k1, h1⟩
    dsimp only
    unfold f_X0_countEnvy_B20
    rw [pC_s, k1 0 (by decide), hS.1, ifle (by omega) (by omega), if_pos (by omega)]
theorem tkB_one {mm : MM} {k0 k q : Nat} (h : mm 8 q = nI k0) (h0 : k0 < 4) (hk : k < 4) (hne : k ≠ k0) : tkB mm k q = false := by
  unfold tkB
  refine decide_eq_false (fun e => hne ?_)
  have := e.1
  rw [h] at this
  exact ((nI_eq (by omega) (by omega)).mp this).symm
theorem Xk_one {c m : Nat → Int32} {fg : Nat → Nat} {n k0 q p : Nat} {mm : MM} (h : mm 8 q = nI k0) (h0 : k0 < 4) : sumN (fun k => b2n (Xk c m fg n mm k q p)) 4 = b2n (Xk c m fg n mm k0 q p) := by
  have z : ∀ k, k < 4 → k ≠ k0 → b2n (Xk c m fg n mm k q p) = 0 := fun k hk hne => by
    unfold Xk
    rw [tkB_one h h0 hk hne, Bool.false_and]
    rfl
  rw [sumN_s, sumN_s, sumN_s, sumN_s]
  rcases (show k0 = 0 ∨ k0 = 1 ∨ k0 = 2 ∨ k0 = 3 by omega) with e | e | e | e
  · subst e; rw [z 1 (by omega) (by omega), z 2 (by omega) (by omega), z 3 (by omega) (by omega)]; show 0 + _ + 0 + 0 + 0 = _; omega
  · subst e; rw [z 0 (by omega) (by omega), z 2 (by omega) (by omega), z 3 (by omega) (by omega)]; show 0 + 0 + _ + 0 + 0 = _; omega
  · subst e; rw [z 0 (by omega) (by omega), z 1 (by omega) (by omega), z 3 (by omega) (by omega)]; show 0 + 0 + 0 + _ + 0 = _; omega
  · subst e; rw [z 0 (by omega) (by omega), z 1 (by omega) (by omega), z 2 (by omega) (by omega)]; show 0 + 0 + 0 + 0 + _ = _; omega
theorem Xk_none {c m : Nat → Int32} {fg : Nat → Nat} {n q p : Nat} {mm : MM} (h : ∀ k, k < 4 → Xk c m fg n mm k q p = false) : sumN (fun k => b2n (Xk c m fg n mm k q p)) 4 = 0 := by
  rw [sumN_congr 4 (g := fun _ => 0) (fun k hk => by rw [h k hk]; rfl), sumN_0]
theorem mgood {cm : CM} {m : Nat → Int32} {n k p q : Nat} {rk : List Nat} {fr fg : Nat → Nat} {mm : MM} (hG : GR (cm 1 1) m n) (hS : SR (cm 1 1) m n rk fr fg (cm 27) mm) (hW : RW n (cm 27) mm) (hk : k < 4) (hp : p < n) (hq : q < n) (hb : tkB mm k q = true) :
    ∃ mm', f_X7_isAsGood mm (nI p) (nI q) (nI k) = some (if fil (fun p => m (8 * p + 3)) (fun s => rsS (fun g => fg (4 * k + g)) s 4) ((List.range n).filter (tkB mm k)) ≤ fil (fun p => m (8 * p + 3)) (fun s => rsS (fun g => fg (4 * k + g)) s 4) (((List.range n).filter (tkB mm k)).erase q ++ [p]) then 1 else 0, mm') ∧ keeps [13, 14, 16] mm mm' := by
  have hn := hG.2.1
  obtain ⟨ch0, mm0, -, -, -, a4, a5, -, a7, a8⟩ := fill_2 (cm := cm) (C := 27) (o := 1) (k := k) (by decide) hG hS hW hk
  have hlen : ((List.range n).filter (tkB mm k)).length ≤ 16 := len_fil (by rw [List.length_range]; exact hn)
  have hmem : q ∈ (List.range n).filter (tkB mm k) := List.mem_filter.mpr ⟨List.mem_range.mpr hq, hb⟩
  have e1 : mm0 1 = m := (a5 1 (by decide)).trans hS.2.1
  obtain ⟨m2, b1, b2, b3⟩ := TLm_sub (p := q) (mm := mm0) (by omega) (by rw [e1]) (a7.pm (perm_q hmem))
  obtain ⟨m3, c1, c2, c3⟩ := TLm_add (p := p) (mm := m2) (by omega) (by rw [b2 1 (by decide), e1]) b3
  have hl2 := len_q hmem hlen
  have hlen2 : (((List.range n).filter (tkB mm k)).erase q ++ [p]).length ≤ 16 := by rw [List.length_append]; simp only [List.length_cons, List.length_nil]; omega
  have f1 := fil16 (fun p => m (8 * p + 3)) (fun s => rsS (fun g => fg (4 * k + g)) s 4) ((List.range n).filter (tkB mm k))
  have f2 := fil16 (fun p => m (8 * p + 3)) (fun s => rsS (fun g => fg (4 * k + g)) s 4) (((List.range n).filter (tkB mm k)).erase q ++ [p])
  refine ⟨m3, ?_, (a5.tr b2 (by decide)).tr c2 (by decide)⟩
  unfold f_X7_isAsGood
  rw [a4, Option.bind_some]
  dsimp only
  rw [b1, Option.bind_some, c1, Option.bind_some, TLm_cut a8 hlen2 c3.1 c3.2.1, Option.bind_some, iflt (by omega) (by omega)]
  by_cases hx : fil (fun p => m (8 * p + 3)) (fun s => rsS (fun g => fg (4 * k + g)) s 4) ((List.range n).filter (tkB mm k)) ≤ fil (fun p => m (8 * p + 3)) (fun s => rsS (fun g => fg (4 * k + g)) s 4) (((List.range n).filter (tkB mm k)).erase q ++ [p])
  · rw [if_pos hx, if_neg (by omega)]
  · rw [if_neg hx, if_pos (by omega)]
theorem menvy_pq {cm : CM} {m : Nat → Int32} {n p q : Nat} {rk : List Nat} {fr fg : Nat → Nat} {mm m' : MM} {acc : Nat} (l : lay (cm 1 1) m) (V : VM m n) (hS : SR (cm 1 1) m n rk fr fg (cm 27) mm) (hW : RW n (cm 27) mm) (hp : p < n) (hq : q < n) (hK : keeps [13, 14, 16] mm m') :
    ∃ m'', f_X7_envy_B22 (nI p) (nI acc) (nI q) m' = some (.inr (nI (acc + sumN (fun k => b2n (Xk (cm 1 1) m fg n mm k q p)) 4), nI (q + 1), m'')) ∧ keeps [13, 14, 16] mm m'' := by
  have hn := V.2.1
  have hG := (OF_of l V).2.1
  have hS' : SR (cm 1 1) m n rk fr fg (cm 27) m' := hS.kp rfl (fun _ _ => rfl) (fun x hx => hK x (by simp at hx ⊢; omega))
  have hW' : RW n (cm 27) m' := by
    unfold RW at hW ⊢
    rw [hK 8 (by decide), hK 10 (by decide)]
    exact hW
  have e1 : m' 1 = m := hS'.2.1
  have e8 : m' 8 = mm 8 := hK 8 (by decide)
  have e10 : m' 10 = mm 10 := hK 10 (by decide)
  have hp16 : p < 16 := by omega
  have zero : (∀ k, k < 4 → Xk (cm 1 1) m fg n mm k q p = false) → ∃ m'', (some (Sum.inr (nI acc, nI (q + 1), m')) : Option ((Int32 × Int32 × MM) ⊕ (Int32 × Int32 × MM))) = some (.inr (nI (acc + sumN (fun k => b2n (Xk (cm 1 1) m fg n mm k q p)) 4), nI (q + 1), m'')) ∧ keeps [13, 14, 16] mm m'' := fun h => ⟨m', by rw [Xk_none h]; rfl, hK⟩
  have hopF : ∀ k, hopB (cm 1 1) (mm 8) k p = false → Xk (cm 1 1) m fg n mm k q p = false := fun k h => by
    unfold Xk Xp
    rw [h, Bool.false_and, Bool.and_false]
  have tkF : ∀ k, tkB mm k q = false → Xk (cm 1 1) m fg n mm k q p = false := fun k h => by
    unfold Xk
    rw [h, Bool.false_and]
  unfold f_X7_envy_B22
  rw [rd_157, e1, V.1, Option.bind_some, ifle (by omega) (by omega), if_neg (by omega), mactive hp16, e1, Option.bind_some, rd_nI _ (by omega) (by omega), e8, Option.bind_some, rd_nI _ (by omega) (by omega), Option.bind_some, rd_nI _ (by omega) (by omega), e10, Option.bind_some, nI_1, Int32.add_zero]
  by_cases ha : 2 < m (8 * p + 4)
  · rw [if_pos ha, i00, Option.bind_some, i00, Option.bind_some, i00]
    refine zero (fun k hk => hopF k ?_)
    unfold hopB cnB
    rw [show cm 1 1 (64 + p) = m (8 * p + 4) from ly_64 l hp16, decide_eq_true ha]
    rfl
  rw [if_neg ha, i10]
  by_cases hb : mm 8 p = -9
  rotate_left
  · rw [if_neg hb, Option.bind_some, i00, Option.bind_some, i00]
    refine zero (fun k hk => hopF k ?_)
    unfold hopB
    rw [decide_eq_false hb, Bool.and_false]
  rw [if_pos hb]
  by_cases hc : mm 8 q = -9
  · rw [if_pos hc, Option.bind_some, i00, Option.bind_some, i00]
    refine zero (fun k hk => tkF k ?_)
    unfold tkB
    exact decide_eq_false (fun e => by rw [hc] at e; exact m9_ne' (by omega) e.1)
  rw [if_neg hc]
  by_cases hd : mm 10 q = 0
  rotate_left
  · rw [if_neg hd, Option.bind_some, i00, Option.bind_some, i00]
    refine zero (fun k hk => tkF k ?_)
    unfold tkB
    exact decide_eq_false (fun e => hd e.2)
  rw [if_pos hd, Option.bind_some, i10]
  obtain ⟨-, -, r3, -⟩ := hW.1 q hq
  rcases r3 with r3 | ⟨k, hk, r3⟩
  · exact absurd r3 hc
  have hmem : tkB mm k q = true := decide_eq_true ⟨r3, hd⟩
  rw [r3, Option.bind_some, mcand hp16, e1, Option.bind_some, if10, mahead (n := n) (by rw [e1]; exact V.mt) hp hq hn, e1, Option.bind_some, if10, Xk_one r3 hk]
  have hhop : hopB (cm 1 1) (mm 8) k p = true ↔ (nI k = 0 ∨ m (8 * p + 2) = nI k) := by
    unfold hopB cnB
    rw [show cm 1 1 (64 + p) = m (8 * p + 4) from ly_64 l hp16, show cm 1 1 (32 + p) = m (8 * p + 2) from ly_32 l hp16, decide_eq_true hb, Bool.and_true, decide_eq_false ha, Bool.not_false, Bool.true_and, Bool.or_eq_true, decide_eq_true_eq, beq_iff_eq]
    have : nI k = 0 ↔ k = 0 := nI_eq (b := 0) (by omega) (by omega)
    rw [this]
  by_cases h1 : nI k = 0 ∨ m (8 * p + 2) = nI k
  rotate_left
  · have : Xk (cm 1 1) m fg n mm k q p = false := hopF k (by
      cases h : hopB (cm 1 1) (mm 8) k p
      · rfl
      · exact absurd (hhop.mp h) h1)
    rw [if_neg h1, Option.bind_some, i00, this]
    exact ⟨m', rfl, hK⟩
  rw [if_pos h1]
  by_cases h2 : kyM m p < kyM m q
  rotate_left
  · have : Xk (cm 1 1) m fg n mm k q p = false := by
      unfold Xk Xp
      rw [decide_eq_false h2, Bool.false_and, Bool.and_false, Bool.and_false]
    rw [if_neg h2, Option.bind_some, i00, this]
    exact ⟨m', rfl, hK⟩
  have hmem' : tkB m' k q = true := by unfold tkB; rw [e8, e10]; exact hmem
  have etk : tkB m' k = tkB mm k := by unfold tkB; rw [e8, e10]
  obtain ⟨m'', g1, g2⟩ := mgood hG hS' hW' hk hp hq hmem'
  rw [etk] at g1
  rw [if_pos h2, Option.bind_some, i10, Option.bind_some, g1, Option.bind_some]
  dsimp only
  rw [if10]
  have hK2 : keeps [13, 14, 16] mm m'' := hK.tr g2 (by decide)
  by_cases h3 : fil (fun p => m (8 * p + 3)) (fun s => rsS (fun g => fg (4 * k + g)) s 4) ((List.range n).filter (tkB mm k)) ≤ fil (fun p => m (8 * p + 3)) (fun s => rsS (fun g => fg (4 * k + g)) s 4) (((List.range n).filter (tkB mm k)).erase q ++ [p])
  · have : Xk (cm 1 1) m fg n mm k q p = true := by
      unfold Xk Xp
      rw [hmem, hhop.mpr h1, decide_eq_true h2, decide_eq_true h3]; rfl
    rw [if_pos h3, this, nI_1]
    exact ⟨m'', rfl, hK2⟩
  · have : Xk (cm 1 1) m fg n mm k q p = false := by
      unfold Xk Xp
      rw [decide_eq_false h3, Bool.and_false, Bool.and_false, Bool.and_false]
    rw [if_neg h3, this]
    exact ⟨m'', rfl, hK2⟩
theorem op_envy {cm : CM} {mm : MM} (h : INV cm mm) : EQ2 (f_X6_envy cm) (f_X7_envy mm) := by
  obtain ⟨cm', n, mm1, mm2, p1, p2, l, V, p3, p4, c1, c2, c3, d1, d2, d3⟩ := h.ask
  have hn := V.2.1
  obtain ⟨s1, s2, -⟩ := c2.out
  have e1 : mm1 1 = mm 1 := s1.2.1
  unfold f_X6_envy f_X7_envy
  rw [p1, Option.bind_some, c1, Option.bind_some]
  have kC := itr_for (step := fun s : Int32 × Int32 × CM => f_X6_envy_B9 s.1 s.2.1 s.2.2)
    (fun k s => ∃ ch, s = (nI (sumN (fun k => sumN (fun q => sumN (fun p => b2n (Xk (cm' 1 1) (mm 1) (fgM (mm 1) n) n mm1 k q p)) n) n) k), nI k, pC cm' 27 ch) ∧ keeps [18, 20] (cm' 27) ch) 4 (0, 0, cm') (by omega) ⟨cm' 27, by rw [pC_self]; rfl, keeps.rf _ _⟩ ?_ ?_
  rotate_left
  · rintro k s hk ⟨ch, rfl, k1⟩
    dsimp only
    have e1' : (pC cm' 27 ch) 1 = cm' 1 := pC_n _ _ (by decide)
    have hS' : SR ((pC cm' 27 ch) 1 1) (mm 1) n (srt (kyM (mm 1)) n) (frM (mm 1) n) (fgM (mm 1) n) ((pC cm' 27 ch) 27) mm1 := by
      rw [e1', pC_s]
      exact s1.kp (by rw [k1 0 (by decide)]) (fun x hx => k1 x (by simp at hx ⊢; omega)) (fun _ _ => rfl)
    have hW' : RW n ((pC cm' 27 ch) 27) mm1 := by
      rw [pC_s]
      have := s2
      unfold RW at this ⊢
      rw [k1 0 (by decide), k1 10 (by decide), k1 14 (by decide)]
      exact this
    obtain ⟨ch', a1, a2⟩ := oenvy_k (cm := pC cm' 27 ch) (by rw [e1']; exact l) V hS' hW' hk
    rw [pC_s] at a2
    rw [pC_pC, e1'] at a1
    unfold f_X6_envy_B9
    rw [if_neg (show ¬ (4 : Int32) ≤ nI k from nI_ge (b := 4) hk (by omega)), a1, Option.bind_some]
    dsimp only
    rw [nI_add, nI_1]
    exact ⟨_, rfl, ch', rfl, k1.tr a2 (by decide)⟩
  · rintro s ⟨ch, rfl, k1⟩
    dsimp only
    unfold f_X6_envy_B9
    rw [if_pos (by decide)]
  obtain ⟨s, i1, ch, rfl, i2⟩ := kC
  have kM := itr_for (step := fun s : Int32 × Int32 × MM => f_X7_envy_B8 s.1 s.2.1 s.2.2)
    (fun p s => ∃ m', s = (nI (sumN (fun p => sumN (fun q => sumN (fun k => b2n (Xk (cm' 1 1) (mm 1) (fgM (mm 1) n) n mm1 k q p)) 4) n) p), nI p, m') ∧ keeps [13, 14, 16] mm1 m') n (0, 0, mm1) (by omega) ⟨mm1, rfl, keeps.rf _ _⟩ ?_ ?_
  rotate_left
  · rintro p s hp ⟨m', rfl, k1⟩
    dsimp only
    have e1' : m' 1 = mm 1 := (k1 1 (by decide)).trans e1
    have kQ := itr_for (step := fun s : Int32 × Int32 × MM => f_X7_envy_B22 (nI p) s.1 s.2.1 s.2.2)
      (fun q s => ∃ m'', s = (nI (sumN (fun p => sumN (fun q => sumN (fun k => b2n (Xk (cm' 1 1) (mm 1) (fgM (mm 1) n) n mm1 k q p)) 4) n) p + sumN (fun q => sumN (fun k => b2n (Xk (cm' 1 1) (mm 1) (fgM (mm 1) n) n mm1 k q p)) 4) q), nI q, m'') ∧ keeps [13, 14, 16] mm1 m'') n (nI (sumN (fun p => sumN (fun q => sumN (fun k => b2n (Xk (cm' 1 1) (mm 1) (fgM (mm 1) n) n mm1 k q p)) 4) n) p), 0, m') (by omega) ⟨m', rfl, k1⟩ ?_ ?_
    · obtain ⟨t, j1, m'', rfl, j2⟩ := kQ
      unfold f_X7_envy_B8
      rw [rd_157, e1', V.1, Option.bind_some, ifle (by omega) (by omega), if_neg (by omega), j1, Option.bind_some]
      dsimp only
      rw [nI_1]
      exact ⟨_, rfl, m'', rfl, j2⟩
    · rintro q t hq ⟨m'', rfl, k2⟩
      dsimp only
      obtain ⟨m3, g1, g2⟩ := menvy_pq (cm := cm') l V s1 s2 hp hq k2
      rw [g1]
      exact ⟨_, rfl, m3, by rw [Nat.add_assoc]; rfl, g2⟩
    · rintro t ⟨m'', rfl, k2⟩
      have e1'' : m'' 1 = mm 1 := (k2 1 (by decide)).trans e1
      dsimp only
      unfold f_X7_envy_B22
      rw [rd_157, e1'', V.1, Option.bind_some, ifle (by omega) (by omega), if_pos (by omega)]
  · rintro s ⟨m', rfl, k1⟩
    have e1' : m' 1 = mm 1 := (k1 1 (by decide)).trans e1
    dsimp only
    unfold f_X7_envy_B8
    rw [rd_157, e1', V.1, Option.bind_some, ifle (by omega) (by omega), if_pos (by omega)]
  obtain ⟨s, j1, m', rfl, j2⟩ := kM
  rw [i1, j1, Option.bind_some, Option.bind_some]
  have es : sumN (fun k => sumN (fun q => sumN (fun p => b2n (Xk (cm' 1 1) (mm 1) (fgM (mm 1) n) n mm1 k q p)) n) n) 4 = sumN (fun p => sumN (fun q => sumN (fun k => b2n (Xk (cm' 1 1) (mm 1) (fgM (mm 1) n) n mm1 k q p)) 4) n) n := by
    rw [sumN_swap (fun k q => sumN (fun p => b2n (Xk (cm' 1 1) (mm 1) (fgM (mm 1) n) n mm1 k q p)) n) n 4]
    rw [sumN_congr n (fun q _ => sumN_swap (fun k p => b2n (Xk (cm' 1 1) (mm 1) (fgM (mm 1) n) n mm1 k q p)) n 4)]
    exact sumN_swap (fun q p => sumN (fun k => b2n (Xk (cm' 1 1) (mm 1) (fgM (mm 1) n) n mm1 k q p)) 4) n n
  rw [es]
  exact ⟨_, _, _, rfl, rfl, (p2.ch i2).km (c3.tr ⟨j2 1 (by decide), j2 2 (by decide), j2 18 (by decide), by rw [j2 0 (by decide)], by rw [j2 0 (by decide)]⟩)⟩
