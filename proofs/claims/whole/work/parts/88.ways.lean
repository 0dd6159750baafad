/-! PURE PART: ways: one person more, on both sides -/
def dg (u g : Nat) : Nat := u / 6 ^ g % 6
def cnd (x : Int32) (F : Nat → Nat) (v g : Nat) : Bool := bt x g && (decide (0 < dg v g) && decide (dg v g ≤ F g))
theorem cnd_t {x : Int32} {F : Nat → Nat} {v g : Nat} : cnd x F v g = true ↔ bt x g = true ∧ 0 < dg v g ∧ dg v g ≤ F g := by
  unfold cnd
  rw [Bool.and_eq_true, Bool.and_eq_true, decide_eq_true_eq, decide_eq_true_eq]
def trm (x : Int32) (F W : Nat → Nat) (u v g : Nat) : Nat := if cnd x F v g = true ∧ u + 6 ^ g ≤ v then W (v - 6 ^ g) else 0
/-- the table, where what comes from u on is added -/
def PW (x : Int32) (F W : Nat → Nat) (u v : Nat) : Nat := W v + sumN (trm x F W u v) 4
def psh (x : Int32) (F W : Nat → Nat) (u v g : Nat) : Nat := if bt x g = true ∧ dg u g < F g ∧ v = u + 6 ^ g then W u else 0
def PI (x : Int32) (F W : Nat → Nat) (u g v : Nat) : Nat := PW x F W (u + 1) v + sumN (psh x F W u v) g
theorem pos6 {g : Nat} (h : g < 4) : 0 < 6 ^ g ∧ 6 ^ g ≤ 216 := by
  rcases (show g = 0 ∨ g = 1 ∨ g = 2 ∨ g = 3 by omega) with e | e | e | e <;> subst e <;> decide
theorem dg_pos {v g : Nat} (hg : g < 4) (h : 0 < dg v g) : 6 ^ g ≤ v := by
  unfold dg at h
  rcases (show g = 0 ∨ g = 1 ∨ g = 2 ∨ g = 3 by omega) with e | e | e | e <;> subst e <;> simp only [Nat.reducePow] at h ⊢ <;> omega
theorem dg_lt (v g : Nat) : dg v g < 6 := Nat.mod_lt _ (by omega)
theorem dg_up {u g : Nat} (hg : g < 4) : (dg u g < 5 → dg (u + 6 ^ g) g = dg u g + 1) ∧ (0 < dg (u + 6 ^ g) g → dg (u + 6 ^ g) g = dg u g + 1) := by
  unfold dg
  rcases (show g = 0 ∨ g = 1 ∨ g = 2 ∨ g = 3 by omega) with e | e | e | e <;> subst e <;> simp only [Nat.reducePow] <;> constructor <;> omega
theorem dg_bd {u g : Nat} (hg : g < 4) (hu : u < 1296) (h : dg u g < 5) : u + 6 ^ g < 1296 := by
  unfold dg at h
  rcases (show g = 0 ∨ g = 1 ∨ g = 2 ∨ g = 3 by omega) with e | e | e | e <;> subst e <;> simp only [Nat.reducePow] at h ⊢ <;> omega
theorem cnd_up {x : Int32} {F : Nat → Nat} {u g : Nat} (hg : g < 4) (hF : F g ≤ 5) : cnd x F (u + 6 ^ g) g = true ↔ bt x g = true ∧ dg u g < F g := by
  obtain ⟨h1, h2⟩ := dg_up (u := u) hg
  rw [cnd_t]
  constructor
  · rintro ⟨a, b, c⟩
    have := h2 b
    exact ⟨a, by omega⟩
  · rintro ⟨a, b⟩
    have := h1 (by omega)
    exact ⟨a, by omega, by omega⟩
theorem PI_4 {x : Int32} {F W : Nat → Nat} {u v : Nat} (hF : ∀ g, g < 4 → F g ≤ 5) : PI x F W u 4 v = PW x F W u v := by
  unfold PI PW
  rw [Nat.add_assoc, ← sumN_add]
  congr 1
  refine sumN_congr 4 (fun g hg => ?_)
  unfold trm psh
  by_cases e : v = u + 6 ^ g
  · subst e
    rw [if_neg (show ¬ (cnd x F (u + 6 ^ g) g = true ∧ u + 1 + 6 ^ g ≤ u + 6 ^ g) from fun q => by omega), Nat.zero_add, Nat.add_sub_cancel]
    exact if_iff ⟨fun q => ⟨(cnd_up hg (hF g hg)).mpr ⟨q.1, q.2.1⟩, Nat.le_refl _⟩, fun q => ⟨((cnd_up hg (hF g hg)).mp q.1).1, ((cnd_up hg (hF g hg)).mp q.1).2, rfl⟩⟩
  · rw [if_neg (show ¬ (bt x g = true ∧ dg u g < F g ∧ v = u + 6 ^ g) from fun q => e q.2.2), Nat.add_zero]
    exact if_iff ⟨fun q => ⟨q.1, by omega⟩, fun q => ⟨q.1, by omega⟩⟩
theorem PW_ge {x : Int32} {F W : Nat → Nat} {u v : Nat} (h : v ≤ u) : PW x F W u v = W v := by
  unfold PW
  rw [sumN_congr 4 (g := fun _ => 0) (fun g hg => by unfold trm; rw [if_neg (fun q => by have := (pos6 hg).1; omega)]), sumN_0]
  rfl
theorem PI_u {x : Int32} {F W : Nat → Nat} {u g : Nat} (hg : g ≤ 4) : PI x F W u g u = W u := by
  unfold PI
  rw [PW_ge (by omega), sumN_congr g (g := fun _ => 0) (fun i hi => by unfold psh; rw [if_neg (fun q => by have := (pos6 (show i < 4 by omega)).1; omega)]), sumN_0]
  rfl
theorem PI_z {x : Int32} {F W : Nat → Nat} {u v g : Nat} (h : W u = 0) : PI x F W u g v = PW x F W (u + 1) v := by
  unfold PI
  rw [sumN_congr g (g := fun _ => 0) (fun i hi => by unfold psh; rw [h]; exact ite_self _), sumN_0]
  rfl
/-! the class's table: object 30, part 2 -/
theorem tget {cm : CM} {v : Nat} (h : v < 1296) : f_X4_get cm 30 1 1296 (nI v) = some (cm 30 2 v) := rowget h (by omega)
theorem tadd {cm : CM} {v : Nat} {y : Int32} (h : v < 1296) : f_X4_add cm 30 1 1296 (nI v) y = some (u3 cm 30 2 (upd (cm 30 2) v (cm 30 2 v + y))) := rowadd h (by omega)
theorem oincl_u {cm c : CM} {x : Int32} {k u : Nat} {F W A : Nat → Nat} (hk : k < 4) (hu0 : 0 < u) (hu : u < 1296) (hc : ∀ o, o ≠ 30 → c o = cm o) (hF : ∀ g, g < 4 → cm 27 6 (4 * k + g) = nI (F g) ∧ F g ≤ 5) (hA : ∀ v, v < 1296 → c 30 2 v = nI (A v)) (hW : ∀ v, v ≤ u → A v = W v) :
    ∃ s, itr (fun s : Int32 × Int32 × Int32 × CM => f_X1_include_B20 27 x (nI k) (nI u) s.1 s.2.1 s.2.2.1 s.2.2.2) 2000 (nI u, 1, 0, c) = some s ∧ (∀ o, o ≠ 30 → s.2.2.2 o = cm o) ∧ ∀ v, v < 1296 → s.2.2.2 30 2 v = nI (if v = u then PW x F W 0 u else A v) := by
  have key := itr_for (step := fun s : Int32 × Int32 × Int32 × CM => f_X1_include_B20 27 x (nI k) (nI u) s.1 s.2.1 s.2.2.1 s.2.2.2)
    (fun g s => s.1 = nI (u / 6 ^ g) ∧ s.2.1 = nI (6 ^ g) ∧ s.2.2.1 = nI g ∧ (∀ o, o ≠ 30 → s.2.2.2 o = cm o) ∧ ∀ v, v < 1296 → s.2.2.2 30 2 v = nI (if v = u then W u + sumN (trm x F W 0 u) g else A v)) 4 (nI u, 1, 0, c) (by omega) ⟨by dsimp only; rw [Nat.pow_zero, Nat.div_one], rfl, rfl, hc, fun v hv => by
      dsimp only
      rw [hA v hv]
      by_cases e : v = u
      · rw [if_pos e, e, hW u (Nat.le_refl _)]; rfl
      · rw [if_neg e]⟩ ?_ ?_
  · obtain ⟨s, i1, -, -, -, i2, i3⟩ := key
    exact ⟨s, i1, i2, i3⟩
  · rintro g ⟨a, b, d, c1⟩ hg ⟨e1, e2, e3, k1, k2⟩
    dsimp only at e1 e2 e3 k1 k2
    subst e1; subst e2; subst e3
    dsimp only
    obtain ⟨hF1, hF2⟩ := hF g hg
    have hd := dg_lt u g
    have hdiv : u / 6 ^ g ≤ u := Nat.div_le_self _ _
    have efr : f_X0_freeReserved c1 27 (nI k) (nI g) = some (nI (F g)) := by
      have := ofreeRes (cm := c1) (C := 27) (ch := c1 27) hk hg
      rw [pC_self, k1 27 (by decide), hF1] at this
      exact this
    have body : ∃ c2, ((if ((x >>> (nI g &&& 31)) &&& 1) = 1 then if nI (dg u g) ≤ 0 then some c1 else (f_X0_freeReserved c1 27 (nI k) (nI g)).bind fun x54 => if x54 < nI (dg u g) then some c1 else (f_X4_get c1 30 1 1296 (nI u - nI (6 ^ g))).bind fun x75 => (f_X4_add c1 30 1 1296 (nI u) x75).bind fun r78 => some r78 else some c1) : Option CM) = some c2 ∧ (∀ o, o ≠ 30 → c2 o = cm o) ∧ ∀ v, v < 1296 → c2 30 2 v = nI (if v = u then W u + sumN (trm x F W 0 u) (g + 1) else A v) := by
      have same : cnd x F u g = false → ∀ v, v < 1296 → c1 30 2 v = nI (if v = u then W u + sumN (trm x F W 0 u) (g + 1) else A v) := fun hno v hv => by
        rw [k2 v hv, sumN_s, show trm x F W 0 u g = 0 by unfold trm; rw [if_neg (fun q => by rw [hno] at q; exact absurd q.1 (by decide))]]
        rfl
      have no : ¬ cnd x F u g = true → cnd x F u g = false := fun h => by simpa using h
      rw [bit1 (by omega), if11]
      by_cases hb : bt x g = true
      rotate_left
      · rw [if_neg hb]
        exact ⟨c1, rfl, k1, same (no (fun q => hb (cnd_t.mp q).1))⟩
      rw [if_pos hb]
      by_cases h0 : dg u g = 0
      · rw [if_pos (by rw [h0]; decide)]
        exact ⟨c1, rfl, k1, same (no (fun q => by have := (cnd_t.mp q).2.1; omega))⟩
      rw [if_neg (nI_nle (by omega) (by omega)), efr, Option.bind_some, iflt (by omega) (by omega)]
      by_cases h1 : F g < dg u g
      · rw [if_pos h1]
        exact ⟨c1, rfl, k1, same (no (fun q => by have := (cnd_t.mp q).2.2; omega))⟩
      have hp := (pos6 hg).1
      have hle := dg_pos hg (show 0 < dg u g by omega)
      have hyes : cnd x F u g = true := cnd_t.mpr ⟨hb, by omega, by omega⟩
      rw [if_neg h1, pk_sub hle, tget (by omega), Option.bind_some, tadd hu, Option.bind_some, k2 u hu, if_pos rfl, k2 (u - 6 ^ g) (by omega), if_neg (by omega), hW (u - 6 ^ g) (by omega), nI_add]
      refine ⟨_, rfl, fun o ho => ?_, fun v hv => ?_⟩
      · rw [u3_o ho]; exact k1 o ho
      · rw [u3_s]
        by_cases e : v = u
        · rw [e, upd_s, if_pos rfl, sumN_s, Nat.add_assoc, show trm x F W 0 u g = W (u - 6 ^ g) by unfold trm; rw [if_pos ⟨hyes, by omega⟩]]
        · rw [upd_n _ _ e, k2 v hv, if_neg e, if_neg e]
    obtain ⟨c2, f1, f2, f3⟩ := body
    unfold f_X1_include_B20
    rw [if_neg (show ¬ (4 : Int32) ≤ nI g from nI_ge (b := 4) hg (by omega)), show (6 : Int32) = nI 6 from rfl, rmI_nI (by omega) (by omega) (by omega), Option.bind_some]
    rw [show u / 6 ^ g % 6 = dg u g from rfl, f1, Option.bind_some, dvI_nI (by omega) (by omega) (by omega), Option.bind_some, pk_mul, nI_1]
    exact ⟨_, rfl, by rw [Nat.div_div_eq_div_mul]; rfl, rfl, rfl, f2, f3⟩
  · rintro ⟨a, b, d, c1⟩ ⟨e1, e2, e3, -⟩
    dsimp only at e3
    subst e3
    dsimp only
    unfold f_X1_include_B20
    rw [if_pos (by decide)]
theorem oincl {cm : CM} {x : Int32} {k : Nat} {F W : Nat → Nat} (hk : k < 4) (hF : ∀ g, g < 4 → cm 27 6 (4 * k + g) = nI (F g) ∧ F g ≤ 5) (hA : ∀ v, v < 1296 → cm 30 2 v = nI (W v)) : ∃ c', f_X1_include cm 27 x (nI k) = some c' ∧ (∀ o, o ≠ 30 → c' o = cm o) ∧ ∀ v, v < 1296 → c' 30 2 v = nI (PW x F W 0 v) := by
  have key := itr_for (step := fun s : Int32 × CM => f_X1_include_B5 27 x (nI k) s.1 s.2)
    (fun i s => s.1 = nI (1295 - i) ∧ (∀ o, o ≠ 30 → s.2 o = cm o) ∧ ∀ v, v < 1296 → s.2 30 2 v = nI (if 1295 - i < v then PW x F W 0 v else W v)) 1295 (1295, cm) (by omega) ⟨rfl, fun _ _ => rfl, fun v hv => by dsimp only; rw [hA v hv, if_neg (by omega)]⟩ ?_ ?_
  · obtain ⟨⟨a, c'⟩, i1, -, i2, i3⟩ := key
    refine ⟨c', ?_, i2, fun v hv => ?_⟩
    · unfold f_X1_include
      rw [i1, Option.bind_some]
    · dsimp only at i3
      rw [i3 v hv]
      by_cases e : v = 0
      · subst e
        rw [if_neg (by omega), PW_ge (Nat.le_refl _)]
      · rw [if_pos (by omega)]
  · rintro i ⟨a, c⟩ hi ⟨e, k1, k2⟩
    dsimp only at e k1 k2
    subst e
    dsimp only
    obtain ⟨s, j1, j2, j3⟩ := oincl_u (cm := cm) (c := c) (x := x) (k := k) (u := 1295 - i) (F := F) (W := W) (A := fun v => if 1295 - i < v then PW x F W 0 v else W v) hk (by omega) (by omega) k1 hF k2 (fun v hv => by rw [if_neg (by omega)])
    obtain ⟨y, hy⟩ : ∃ y, 1295 - i = y + 1 := ⟨1294 - i, by omega⟩
    unfold f_X1_include_B5
    rw [if_neg (nI_nle (by omega) (by omega)), j1, Option.bind_some]
    dsimp only
    refine ⟨_, rfl, ?_, j2, fun v hv => ?_⟩
    · dsimp only
      rw [hy, pk_m1, show 1295 - (i + 1) = y by omega]
    · dsimp only
      rw [j3 v hv]
      by_cases e : v = 1295 - i
      · rw [if_pos e, if_pos (by omega), e]
      · rw [if_neg e]
        congr 1
        exact if_iff ⟨fun q => by omega, fun q => by omega⟩
  · rintro ⟨a, c⟩ ⟨e, -⟩
    dsimp only at e
    subst e
    dsimp only
    unfold f_X1_include_B5
    rw [if_pos (by decide)]
theorem mused {u g : Nat} (hu : u < 1296) (hg : g ≤ 4) : f_X7_usedOf (nI u) (nI g) = some (nI (dg u g)) := by
  unfold f_X7_usedOf
  have key := itr_seq (step := fun s : Int32 × Int32 => f_X7_usedOf_B4 (nI g) s.1 s.2) (o := (nI (u / 6 ^ g), nI g)) g 2000 (fun k => (nI (u / 6 ^ k), nI k)) (by omega) ?_ ?_
  · have e0 : (nI u, (0 : Int32)) = (nI (u / 6 ^ 0), nI 0) := by rw [Nat.pow_zero, Nat.div_one]; rfl
    have hdiv : u / 6 ^ g ≤ u := Nat.div_le_self _ _
    rw [e0, key, Option.bind_some]
    dsimp only
    rw [show (6 : Int32) = nI 6 from rfl, rmI_nI (by omega) (by omega) (by omega), Option.bind_some]
    rfl
  · intro k hk
    have hdiv : u / 6 ^ k ≤ u := Nat.div_le_self _ _
    dsimp only
    unfold f_X7_usedOf_B4
    rw [ifle (by omega) (by omega), if_neg (by omega), show (6 : Int32) = nI 6 from rfl, dvI_nI (by omega) (by omega) (by omega), Option.bind_some, nI_1, Nat.div_div_eq_div_mul]
    rfl
  · dsimp only
    unfold f_X7_usedOf_B4
    rw [ifle (by omega) (by omega), if_pos (by omega)]
theorem msix : ∀ g, g < 4 → f_X7_sixes (nI g) = some (nI (6 ^ g)) := by decide +kernel
theorem updL_s (f : LM) (k : Nat) (x : Int64) : vp_updL f k x k = x := pk_uLs
theorem updL_n (f : LM) {k j : Nat} (x : Int64) (h : j ≠ k) : vp_updL f k x j = f j := pk_uLn h
theorem maddw_u {mm : MM} {lm : LM} {x : Int32} {p k u : Nat} {F W : Nat → Nat} (hp : p < 16) (hk : k < 4) (hu : u < 1296) (hx : mm 1 (8 * p + 3) = x) (hF : ∀ g, g < 4 → mm 5 (4 * k + g) = nI (F g) ∧ F g ≤ 5) (hW : W u < 2 ^ 31) (hL : ∀ v, v < 1296 → lm v = lN (PW x F W (u + 1) v)) :
    ∃ s, itr (fun s : Int32 × LM => f_X7_addWays_B11 mm (nI p) (nI k) (nI u) s.1 s.2) 2000 (0, lm) = some s ∧ ∀ v, v < 1296 → s.2 v = lN (PW x F W u v) := by
  refine itr_inv (step := fun s : Int32 × LM => f_X7_addWays_B11 mm (nI p) (nI k) (nI u) s.1 s.2)
    (fun g s => s.1 = nI g ∧ ∀ v, v < 1296 → s.2 v = lN (PI x F W u g v)) (fun o => ∀ v, v < 1296 → o.2 v = lN (PW x F W u v)) 4 ?_ ?_ 2000 0 (0, lm) (Nat.zero_le _) (by omega) ⟨rfl, fun v hv => hL v hv⟩
  · rintro g ⟨a, L⟩ hg ⟨e, k1⟩
    dsimp only at e k1
    subst e
    dsimp only
    obtain ⟨hF1, hF2⟩ := hF g hg
    have hd := dg_lt u g
    unfold f_X7_addWays_B11
    rw [if_neg (show ¬ (4 : Int32) ≤ nI g from nI_ge (b := 4) hg (by omega)), rdL_nI _ hu (by omega), k1 u hu, PI_u (by omega), Option.bind_some]
    by_cases hz : W u = 0
    · rw [if_pos (by rw [lg_cmp_le, hz]; decide)]
      refine Or.inr ⟨_, rfl, fun v hv => ?_⟩
      dsimp only
      rw [k1 v hv, ← PI_4 (u := u) (v := v) (fun g hg => (hF g hg).2), PI_z hz, PI_z hz]
    · rw [if_neg (by rw [lg_cmp_le]; exact fun q => hz (Nat.le_zero.mp ((lN_le (a := W u) (b := 0) hW (by omega)).mp q))), mo_3 hp, hx, Option.bind_some, isin, Option.bind_some]
      have may : ((if ((x >>> (nI g &&& 31)) &&& 1) = 1 then (f_X7_usedOf (nI u) (nI g)).bind fun x46 => (rd 16 (mm 5) ((4 * nI k) + nI g)).bind fun x59 => if x59 ≤ x46 then some 0 else some 1 else some 0) : Option Int32) = some (if bt x g = true ∧ dg u g < F g then 1 else 0) := by
        rw [bit1 (by omega), if11]
        by_cases hb : bt x g = true
        · rw [if_pos hb, mused hu (by omega), Option.bind_some, show (4 : Int32) * nI k + nI g = nI (4 * k + g) by rw [show (4 : Int32) = nI 4 from rfl, pk_mul, nI_add], rd_nI _ (by omega) (by omega), hF1, Option.bind_some, ifle (by omega) (by omega)]
          by_cases h1 : F g ≤ dg u g
          · rw [if_pos h1, if_neg (fun q => by omega)]
          · rw [if_neg h1, if_pos ⟨hb, by omega⟩]
        · rw [if_neg hb, if_neg (fun q => hb q.1)]
      rw [may, Option.bind_some, if10, nI_1]
      by_cases hm : bt x g = true ∧ dg u g < F g
      · have hbd := dg_bd hg hu (show dg u g < 5 by omega)
        have hp6 := (pos6 hg).1
        rw [if_pos hm, msix g hg, Option.bind_some, nI_add, rdL_nI _ hbd (by omega), Option.bind_some, Option.bind_some, wrL_nI _ _ hbd (by omega), Option.bind_some, k1 _ hbd, lN_add]
        refine Or.inl ⟨_, rfl, rfl, fun v hv => ?_⟩
        dsimp only
        by_cases e : v = u + 6 ^ g
        · rw [e, updL_s]
          congr 1
          unfold PI
          rw [sumN_s, show psh x F W u (u + 6 ^ g) g = W u by unfold psh; rw [if_pos ⟨hm.1, hm.2, rfl⟩]]
          omega
        · rw [updL_n _ _ e, k1 v hv]
          congr 1
          unfold PI
          rw [sumN_s, show psh x F W u v g = 0 by unfold psh; rw [if_neg (fun q => e q.2.2)]]
          rfl
      · rw [if_neg hm]
        refine Or.inl ⟨_, rfl, rfl, fun v hv => ?_⟩
        dsimp only
        rw [k1 v hv]
        congr 1
        unfold PI
        rw [sumN_s, show psh x F W u v g = 0 by unfold psh; rw [if_neg (fun q => hm ⟨q.1, q.2.1⟩)]]
        rfl
  · rintro ⟨a, L⟩ ⟨e, k1⟩
    dsimp only at e k1
    subst e
    dsimp only
    unfold f_X7_addWays_B11
    rw [if_pos (by decide)]
    refine ⟨_, rfl, fun v hv => ?_⟩
    dsimp only
    rw [k1 v hv, PI_4 (fun g hg => (hF g hg).2)]
theorem maddw {mm : MM} {lm : LM} {x : Int32} {p k : Nat} {F W : Nat → Nat} (hp : p < 16) (hk : k < 4) (hx : mm 1 (8 * p + 3) = x) (hF : ∀ g, g < 4 → mm 5 (4 * k + g) = nI (F g) ∧ F g ≤ 5) (hW : ∀ u, u < 1296 → W u < 2 ^ 31) (hL : ∀ v, v < 1296 → lm v = lN (W v)) : ∃ lm', f_X7_addWays mm lm (nI p) (nI k) = some lm' ∧ ∀ v, v < 1296 → lm' v = lN (PW x F W 0 v) := by
  have key := itr_for (step := fun s : Int32 × LM => f_X7_addWays_B4 mm (nI p) (nI k) s.1 s.2)
    (fun i s => s.1 = nI (1296 - i) - 1 ∧ ∀ v, v < 1296 → s.2 v = lN (PW x F W (1296 - i) v)) 1296 (1295, lm) (by omega) ⟨rfl, fun v hv => by dsimp only; rw [hL v hv, PW_ge (by omega)]⟩ ?_ ?_
  · obtain ⟨⟨a, L⟩, i1, -, i2⟩ := key
    refine ⟨L, ?_, fun v hv => i2 v hv⟩
    unfold f_X7_addWays
    rw [i1, Option.bind_some]
  · rintro i ⟨a, L⟩ hi ⟨e, k1⟩
    dsimp only at e k1
    obtain ⟨y, hy⟩ : ∃ y, 1296 - i = y + 1 := ⟨1295 - i, by omega⟩
    rw [hy, nI_pred] at e
    subst e
    rw [hy] at k1
    dsimp only
    obtain ⟨s, j1, j2⟩ := maddw_u (u := y) (W := W) hp hk (by omega) hx hF (hW y (by omega)) k1
    unfold f_X7_addWays_B4
    rw [if_neg (nI_pos (by omega)), j1, Option.bind_some]
    dsimp only
    refine ⟨_, rfl, ?_, fun v hv => ?_⟩
    · dsimp only
      rw [m1_sub, show 1296 - (i + 1) = y by omega]
    · dsimp only
      rw [show 1296 - (i + 1) = y by omega]
      exact j2 v hv
  · rintro ⟨a, L⟩ ⟨e, k1⟩
    dsimp only at e
    subst e
    dsimp only
    unfold f_X7_addWays_B4
    rw [if_pos (by decide)]
