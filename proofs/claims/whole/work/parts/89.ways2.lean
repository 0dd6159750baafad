/-! PURE PART: ways -/
def WW (gs : Nat → Int32) (F : Nat → Nat) (B : Nat → Bool) : Nat → (Nat → Nat)
  | 0 => fun u => if u = 0 then 1 else 0
  | p + 1 => if B p = true then PW (gs p) F (WW gs F B p) 0 else WW gs F B p
theorem PW_bd {x : Int32} {F W : Nat → Nat} {j : Nat} (h : ∀ u, W u ≤ bd j u) (v : Nat) : PW x F W 0 v ≤ bd (j + 1) v := by
  have t : ∀ g s, 6 ^ g = s → trm x F W 0 v g ≤ if s ≤ v then bd j (v - s) else 0 := by
    intro g s e
    subst e
    unfold trm
    by_cases h1 : 6 ^ g ≤ v
    · rw [if_pos h1]
      by_cases h2 : cnd x F v g = true ∧ 0 + 6 ^ g ≤ v
      · rw [if_pos h2]; exact h _
      · rw [if_neg h2]; exact Nat.zero_le _
    · rw [if_neg h1, if_neg (fun q => h1 (by omega))]
      exact Nat.le_refl _
  have t0 := t 0 1 rfl
  have t1 := t 1 6 rfl
  have t2 := t 2 36 rfl
  have t3 := t 3 216 rfl
  have hv := h v
  rw [bd_s]
  show W v + (0 + trm x F W 0 v 0 + trm x F W 0 v 1 + trm x F W 0 v 2 + trm x F W 0 v 3) ≤ _
  omega
theorem WW_bd {gs : Nat → Int32} {F : Nat → Nat} {B : Nat → Bool} : ∀ p u, WW gs F B p u ≤ bd p u
  | 0, u => Nat.le_refl _
  | p + 1, u => by
    unfold WW
    by_cases h : B p = true
    · rw [if_pos h]; exact PW_bd (WW_bd p) u
    · rw [if_neg h]; exact Nat.le_trans (WW_bd p u) (bd_up u (by omega))
theorem WW_31 {gs : Nat → Int32} {F : Nat → Nat} {B : Nat → Bool} {p u : Nat} (hp : p ≤ 16) (hu : u < 1296) : WW gs F B p u < 2 ^ 31 := by
  have h1 := WW_bd (gs := gs) (F := F) (B := B) p u
  have h2 := bd_up u hp
  have h3 := bd_16 hu
  omega
def ds (u : Nat) : Nat := dg u 0 + dg u 1 + dg u 2 + dg u 3
theorem odigits {u : Nat} (hu : u < 1296) : f_X1_sumOfDigits (nI u) = some (nI (ds u)) := by
  unfold f_X1_sumOfDigits
  have key := itr_seq (step := fun s : Int32 × Int32 × Int32 => f_X1_sumOfDigits_B6 s.1 s.2.1 s.2.2) (o := (nI (u / 6 ^ 4), nI (sumN (dg u) 4), nI 4)) 4 2000 (fun g => (nI (u / 6 ^ g), nI (sumN (dg u) g), nI g)) (by omega) ?_ ?_
  · have e0 : (nI u, (0 : Int32), (0 : Int32)) = (nI (u / 6 ^ 0), nI (sumN (dg u) 0), nI 0) := by rw [Nat.pow_zero, Nat.div_one]; rfl
    rw [e0, key, Option.bind_some]
    show some (nI (0 + dg u 0 + dg u 1 + dg u 2 + dg u 3)) = _
    unfold ds
    rw [Nat.zero_add]
  · intro g hg
    have hdiv : u / 6 ^ g ≤ u := Nat.div_le_self _ _
    dsimp only
    unfold f_X1_sumOfDigits_B6
    rw [if_neg (show ¬ (4 : Int32) ≤ nI g from nI_ge (b := 4) hg (by omega)), show (6 : Int32) = nI 6 from rfl, rmI_nI (by omega) (by omega) (by omega), Option.bind_some, dvI_nI (by omega) (by omega) (by omega), Option.bind_some, nI_add, nI_1, Nat.div_div_eq_div_mul]
    rfl
  · dsimp only
    unfold f_X1_sumOfDigits_B6
    rw [if_pos (by decide)]
theorem owaysT {c : CM} {fl : Int32} {W : Nat → Nat} (hA : ∀ v, v < 1296 → c 30 2 v = nI (W v)) (hW : ∀ v, v < 1296 → W v < 2 ^ 31) : itr (fun s : Int64 × Int32 => f_X1_count_B73 (fl, c) s.1 s.2) 2000 ((0 : Int64), 0) = some (lN (sumN (fun u => if nI (ds u) = fl then W u else 0) 1296), nI 1296) := by
  refine itr_seq (step := fun s : Int64 × Int32 => f_X1_count_B73 (fl, c) s.1 s.2) 1296 2000 (fun u => (lN (sumN (fun u => if nI (ds u) = fl then W u else 0) u), nI u)) (by omega) ?_ ?_
  · intro u hu
    dsimp only
    unfold f_X1_count_B73
    rw [if_neg (show ¬ (1296 : Int32) ≤ nI u from nI_ge (b := 1296) hu (by omega)), odigits hu, Option.bind_some, nI_1, sumN_s]
    dsimp only
    by_cases h : nI (ds u) = fl
    · rw [if_pos h, if_pos h, tget hu, hA u hu, Option.bind_some, nI_l (hW u hu), lN_add]
    · rw [if_neg h, if_neg h]; rfl
  · dsimp only
    unfold f_X1_count_B73
    rw [if_pos (by decide)]
theorem mwaysT {lm : LM} {m' : MM} {fl : Int32} {W : Nat → Nat} (hL : ∀ v, v < 1296 → lm v = lN (W v)) : itr (fun s : Int64 × Int32 => f_X7_ways_B91 lm (fl, m') s.1 s.2) 2000 ((0 : Int64), 0) = some (lN (sumN (fun u => if nI (ds u) = fl then W u else 0) 1296), nI 1296) := by
  refine itr_seq (step := fun s : Int64 × Int32 => f_X7_ways_B91 lm (fl, m') s.1 s.2) 1296 2000 (fun u => (lN (sumN (fun u => if nI (ds u) = fl then W u else 0) u), nI u)) (by omega) ?_ ?_
  · intro u hu
    dsimp only
    unfold f_X7_ways_B91
    rw [if_neg (show ¬ (1296 : Int32) ≤ nI u from nI_ge (b := 1296) hu (by omega)), show f_X7_usedOf (nI u) 0 = some (nI (dg u 0)) from mused (g := 0) hu (by omega), Option.bind_some, show f_X7_usedOf (nI u) 1 = some (nI (dg u 1)) from mused (g := 1) hu (by omega), Option.bind_some, show f_X7_usedOf (nI u) 2 = some (nI (dg u 2)) from mused (g := 2) hu (by omega), Option.bind_some, show f_X7_usedOf (nI u) 3 = some (nI (dg u 3)) from mused (g := 3) hu (by omega), Option.bind_some, nI_add, nI_add, nI_add, nI_1, sumN_s]
    rw [show dg u 0 + dg u 1 + dg u 2 + dg u 3 = ds u from rfl]
    dsimp only
    by_cases h : nI (ds u) = fl
    · rw [if_pos h, if_pos h, rdL_nI _ hu (by omega), hL u hu, Option.bind_some, lN_add]
    · rw [if_neg h, if_neg h, show (0 : Int64) = lN 0 from rfl, lN_add]
  · dsimp only
    unfold f_X7_ways_B91
    rw [if_pos (by decide)]
theorem minit (lm : LM) : ∃ x lm', itr (fun s : Int32 × LM => f_X7_ways_B17 s.1 s.2) 2000 (0, lm) = some (x, lm') ∧ ∀ v, v < 1296 → lm' v = lN (if v = 0 then 1 else 0) := by
  have key := itr_for (step := fun s : Int32 × LM => f_X7_ways_B17 s.1 s.2) (fun u s => s.1 = nI u ∧ ∀ v, v < u → s.2 v = lN (if v = 0 then 1 else 0)) 1296 (0, lm) (by omega) ⟨rfl, fun v hv => by omega⟩ ?_ ?_
  · obtain ⟨⟨x, L⟩, i1, -, i2⟩ := key
    exact ⟨x, L, i1, i2⟩
  · rintro u ⟨x, L⟩ hu ⟨e, k1⟩
    dsimp only at e k1
    subst e
    dsimp only
    unfold f_X7_ways_B17
    rw [if_neg (show ¬ (1296 : Int32) ≤ nI u from nI_ge (b := 1296) hu (by omega)), nI_1]
    by_cases h : u = 0
    · subst h
      rw [if_pos (by decide), wrL_nI _ _ hu (by omega), Option.bind_some]
      refine ⟨_, rfl, rfl, fun v hv => ?_⟩
      dsimp only
      rw [show v = 0 by omega, updL_s]
      rfl
    · rw [if_neg (nI_ne0 (by omega) (by omega)), wrL_nI _ _ hu (by omega), Option.bind_some]
      refine ⟨_, rfl, rfl, fun v hv => ?_⟩
      dsimp only
      by_cases e : v = u
      · rw [e, updL_s, if_neg h]; rfl
      · rw [updL_n _ _ e]; exact k1 v (by omega)
  · rintro ⟨x, L⟩ ⟨e, -⟩
    dsimp only at e
    subst e
    dsimp only
    unfold f_X7_ways_B17
    rw [if_pos (by decide)]
theorem op_ways {cm : CM} {mm : MM} (lm : LM) (h : INV cm mm) (a1 : Int32) : ∃ r cm' mm' lm', f_X6_ways cm a1 = some (r, cm') ∧ f_X7_ways mm lm a1 = some (r, mm', lm') ∧ INV cm' mm' := by
  obtain ⟨cm', n, mm1, mm2, p1, p2, l, V, p3, p4, c1, c2, c3, d1, d2, d3⟩ := h.ask
  have hn := V.2.1
  unfold f_X6_ways f_X7_ways
  rcases kdn a1 with ⟨k, hk, rfl, q1, q2⟩ | ⟨-, q1, q2⟩
  rotate_left
  · rw [q1, q2, Option.bind_some, Option.bind_some, i00, i00]
    exact ⟨_, _, _, _, rfl, rfl, h⟩
  rw [q1, q2, Option.bind_some, Option.bind_some, i10, i10, p1, Option.bind_some, c1, Option.bind_some]
  obtain ⟨s1, s2, -⟩ := c2.out
  have e1 : mm1 1 = mm 1 := s1.2.1
  have hG := (OF_of l V).2.1
  have hB := tkB_w (k := k) s2
  have hFc : ∀ g, g < 4 → cm' 27 6 (4 * k + g) = nI (fgM (mm 1) n (4 * k + g)) ∧ fgM (mm 1) n (4 * k + g) ≤ 5 := fun g hg => ⟨(s1.2.2.2.2.1 _ (by omega)).1, (s1.2.2.2.2.1 _ (by omega)).2.2⟩
  have hFm : ∀ g, g < 4 → mm1 5 (4 * k + g) = nI (fgM (mm 1) n (4 * k + g)) ∧ fgM (mm 1) n (4 * k + g) ≤ 5 := fun g hg => ⟨(s1.2.2.2.2.1 _ (by omega)).2.1, (s1.2.2.2.2.1 _ (by omega)).2.2⟩
  have kC := itr_for (step := fun s : Int32 × CM => f_X1_count_B20 1 27 (nI k) s.1 s.2)
    (fun p s => s.1 = nI p ∧ (∀ o, o ≠ 30 → s.2 o = cm' o) ∧ ∀ v, v < 1296 → s.2 30 2 v = nI (WW (fun p => mm 1 (8 * p + 3)) (fun g => fgM (mm 1) n (4 * k + g)) (tkB mm1 k) p v)) n (0, u3 (u3 cm' 30 2 (mixf 1296 (fun _ => 0) (cm' 30 2))) 30 2 (upd ((u3 cm' 30 2 (mixf 1296 (fun _ => 0) (cm' 30 2))) 30 2) 0 1)) (by omega) ⟨rfl, fun o ho => by dsimp only; rw [u3_o ho, u3_o ho], fun v hv => by
      dsimp only
      rw [u3_s, u3_s]
      show upd _ 0 1 v = nI (if v = 0 then 1 else 0)
      by_cases e : v = 0
      · rw [e, upd_s]; rfl
      · rw [upd_n _ _ e, mix_lt _ _ hv, if_neg e]; rfl⟩ ?_ ?_
  rotate_left
  · rintro p ⟨x, c⟩ hp ⟨e, k1, k2⟩
    dsimp only at e k1 k2
    subst e
    dsimp only
    have lc : lay (c 1 1) (mm 1) := by rw [k1 1 (by decide)]; exact l
    unfold f_X1_count_B20
    rw [opeople, ly_158 lc, V.1, Option.bind_some, ifle (by omega) (by omega), if_neg (by omega), oisTaken' (by omega), k1 27 (by decide), Option.bind_some, if10, nI_1]
    by_cases hb : tkB mm1 k p = true
    · obtain ⟨c', b1, b2, b3⟩ := oincl (cm := c) (x := mm 1 (8 * p + 3)) (k := k) (F := fun g => fgM (mm 1) n (4 * k + g)) (W := WW (fun p => mm 1 (8 * p + 3)) (fun g => fgM (mm 1) n (4 * k + g)) (tkB mm1 k) p) hk (fun g hg => by rw [k1 27 (by decide)]; exact hFc g hg) k2
      rw [if_pos ((hB p hp).mpr hb), og_48 (by omega), ly_48 lc (by omega), Option.bind_some, b1, Option.bind_some]
      refine ⟨_, rfl, rfl, fun o ho => (b2 o ho).trans (k1 o ho), fun v hv => ?_⟩
      dsimp only
      rw [b3 v hv]
      show _ = nI ((if tkB mm1 k p = true then PW _ _ _ 0 else _) v)
      rw [if_pos hb]
    · rw [if_neg (fun q => hb ((hB p hp).mp q))]
      refine ⟨_, rfl, rfl, k1, fun v hv => ?_⟩
      dsimp only
      rw [k2 v hv]
      show _ = nI ((if tkB mm1 k p = true then PW _ _ _ 0 else _) v)
      rw [if_neg hb]
  · rintro ⟨x, c⟩ ⟨e, k1, -⟩
    dsimp only at e k1
    subst e
    dsimp only
    have lc : lay (c 1 1) (mm 1) := by rw [k1 1 (by decide)]; exact l
    unfold f_X1_count_B20
    rw [opeople, ly_158 lc, V.1, Option.bind_some, ifle (by omega) (by omega), if_pos (by omega)]
  obtain ⟨⟨x, c⟩, i1, -, i2, i3⟩ := kC
  dsimp only at i2 i3
  obtain ⟨y, lm1, j0, j1⟩ := minit lm
  have kM := itr_for (step := fun s : Int32 × LM => f_X7_ways_B47 (nI k) mm1 s.1 s.2)
    (fun p s => s.1 = nI p ∧ ∀ v, v < 1296 → s.2 v = lN (WW (fun p => mm 1 (8 * p + 3)) (fun g => fgM (mm 1) n (4 * k + g)) (tkB mm1 k) p v)) n (0, lm1) (by omega) ⟨rfl, j1⟩ ?_ ?_
  rotate_left
  · rintro p ⟨x, L⟩ hp ⟨e, k1⟩
    dsimp only at e k1
    subst e
    dsimp only
    have hb' := tkB_m (mm := mm1) (k := k) p
    unfold f_X7_ways_B47
    rw [rd_157, e1, V.1, Option.bind_some, ifle (by omega) (by omega), if_neg (by omega), misTaken (by omega), Option.bind_some, if10, nI_1]
    by_cases hb : tkB mm1 k p = true
    · obtain ⟨L', b1, b2⟩ := maddw (mm := mm1) (lm := L) (x := mm 1 (8 * p + 3)) (p := p) (k := k) (F := fun g => fgM (mm 1) n (4 * k + g)) (W := WW (fun p => mm 1 (8 * p + 3)) (fun g => fgM (mm 1) n (4 * k + g)) (tkB mm1 k) p) (by omega) hk (by rw [e1]) hFm (fun u hu => WW_31 (by omega) hu) k1
      rw [if_pos (hb'.mpr hb), b1, Option.bind_some]
      refine ⟨_, rfl, rfl, fun v hv => ?_⟩
      dsimp only
      rw [b2 v hv]
      show _ = lN ((if tkB mm1 k p = true then PW _ _ _ 0 else _) v)
      rw [if_pos hb]
    · rw [if_neg (fun q => hb (hb'.mp q))]
      refine ⟨_, rfl, rfl, fun v hv => ?_⟩
      dsimp only
      rw [k1 v hv]
      show _ = lN ((if tkB mm1 k p = true then PW _ _ _ 0 else _) v)
      rw [if_neg hb]
  · rintro ⟨x, L⟩ ⟨e, -⟩
    dsimp only at e
    subst e
    dsimp only
    unfold f_X7_ways_B47
    rw [rd_157, e1, V.1, Option.bind_some, ifle (by omega) (by omega), if_pos (by omega)]
  obtain ⟨⟨z, L⟩, j2, -, j3⟩ := kM
  dsimp only at j3
  have hGc : GR (c 1 1) (mm 1) n := by rw [i2 1 (by decide)]; exact hG
  have hSc : SR (c 1 1) (mm 1) n (srt (kyM (mm 1)) n) (frM (mm 1) n) (fgM (mm 1) n) (c 27) mm1 := by rw [i2 1 (by decide), i2 27 (by decide)]; exact s1
  have hWc : RW n (c 27) mm1 := by rw [i2 27 (by decide)]; exact s2
  obtain ⟨ch', mm', f1, f2, f3, f4, f5', -⟩ := fill_2 (cm := c) (C := 27) (o := 1) (k := k) (by decide) hGc hSc hWc hk
  have hT := owaysT (c := pC c 27 ch') (fl := nI (fil (fun p => mm 1 (8 * p + 3)) (fun s => rsS (fun g => fgM (mm 1) n (4 * k + g)) s 4) ((List.range n).filter (tkB mm1 k)))) (W := WW (fun p => mm 1 (8 * p + 3)) (fun g => fgM (mm 1) n (4 * k + g)) (tkB mm1 k) n) (fun v hv => by rw [pC_n _ _ (by decide)]; exact i3 v hv) (fun v hv => WW_31 hn hv)
  have hU := mwaysT (lm := L) (m' := mm') (fl := nI (fil (fun p => mm 1 (8 * p + 3)) (fun s => rsS (fun g => fgM (mm 1) n (4 * k + g)) s 4) ((List.range n).filter (tkB mm1 k)))) (W := WW (fun p => mm 1 (8 * p + 3)) (fun g => fgM (mm 1) n (4 * k + g)) (tkB mm1 k) n) j3
  unfold f_X1_count f_X0_fillOf
  rw [show f_X4_fill cm' 30 1 1296 0 = some (u3 cm' 30 2 (mixf 1296 (fun _ => 0) (cm' 30 2))) from rowfill (by omega), Option.bind_some, show f_X4_set (u3 cm' 30 2 (mixf 1296 (fun _ => 0) (cm' 30 2))) 30 1 1296 0 1 = some (u3 (u3 cm' 30 2 (mixf 1296 (fun _ => 0) (cm' 30 2))) 30 2 (upd ((u3 cm' 30 2 (mixf 1296 (fun _ => 0) (cm' 30 2))) 30 2) 0 1)) from rowset (k := 0) (by omega) (by omega), Option.bind_some, i1, Option.bind_some]
  dsimp only
  rw [f1, Option.bind_some, f2, Option.bind_some, Option.bind_some, hT, Option.bind_some, j0, Option.bind_some]
  dsimp only
  rw [Option.bind_some, j2, Option.bind_some]
  dsimp only
  rw [f4, Option.bind_some, hU, Option.bind_some]
  refine ⟨_, _, _, _, rfl, rfl, ?_⟩
  have hI : INV c mm1 := (p2.km c3).kp (fun o ho => i2 o (by omega)) rfl rfl rfl rfl
  exact (hI.ch f3).km ⟨f5' 1 (by decide), f5' 2 (by decide), f5' 18 (by decide), congrFun (f5' 0 (by decide)) 2, congrFun (f5' 0 (by decide)) 3⟩
