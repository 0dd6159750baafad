/-! PURE PART: sure -/
def oI (m : Nat → Int32) (a b c d : Int32) : Nat → Int32 := upd (upd (upd (upd m 152 a) 153 b) 154 c) 155 d
theorem oI_hi {m : Nat → Int32} {a b c d : Int32} {i : Nat} (h : i < 152 ∨ 156 ≤ i) : oI m a b c d i = m i := by
  unfold oI
  rw [upd_n _ _ (by omega), upd_n _ _ (by omega), upd_n _ _ (by omega), upd_n _ _ (by omega)]
theorem oI_0 {m : Nat → Int32} {a b c d : Int32} : oI m a b c d 152 = a := by unfold oI; rw [upd_n _ _ (by omega), upd_n _ _ (by omega), upd_n _ _ (by omega), upd_s]
theorem oI_1 {m : Nat → Int32} {a b c d : Int32} : oI m a b c d 153 = b := by unfold oI; rw [upd_n _ _ (by omega), upd_n _ _ (by omega), upd_s]
theorem oI_2 {m : Nat → Int32} {a b c d : Int32} : oI m a b c d 154 = c := by unfold oI; rw [upd_n _ _ (by omega), upd_s]
theorem oI_3 {m : Nat → Int32} {a b c d : Int32} : oI m a b c d 155 = d := by unfold oI; rw [upd_s]
theorem oI_ext {m m' : Nat → Int32} {a b c d : Int32} (h : ∀ i, i < 152 ∨ 156 ≤ i → m' i = m i) (h0 : m' 152 = a) (h1 : m' 153 = b) (h2 : m' 154 = c) (h3 : m' 155 = d) : m' = oI m a b c d := by
  funext i
  rcases (show i = 152 ∨ i = 153 ∨ i = 154 ∨ i = 155 ∨ (i < 152 ∨ 156 ≤ i) by omega) with e | e | e | e | e
  · subst e; rw [oI_0, h0]
  · subst e; rw [oI_1, h1]
  · subst e; rw [oI_2, h2]
  · subst e; rw [oI_3, h3]
  · rw [oI_hi e, h i e]
theorem oI_oI {m : Nat → Int32} {a b c d a' b' c' d' : Int32} : oI (oI m a b c d) a' b' c' d' = oI m a' b' c' d' := oI_ext (fun i h => by rw [oI_hi h, oI_hi h]) oI_0 oI_1 oI_2 oI_3
theorem oI_self {m : Nat → Int32} : oI m (m 152) (m 153) (m 154) (m 155) = m := (oI_ext (fun _ _ => rfl) rfl rfl rfl rfl).symm
theorem lay_oI {c m : Nat → Int32} (l : lay c m) (a b d e : Int32) : lay (oI c a b d e) (oI m a b d e) :=
  lay_upd (j := 155) (lay_upd (j := 154) (lay_upd (j := 153) (lay_upd (j := 152) l (by omega) a) (by omega) b) (by omega) d) (by omega) e
theorem VM_oI {m : Nat → Int32} {n a b c d : Nat} (V : VM m n) (ha : a < 4) (hb : b < 4) (hc : c < 4) (hd : d < 4) (h : (a ≠ b ∧ a ≠ c ∧ a ≠ d) ∧ (b ≠ c ∧ b ≠ d) ∧ c ≠ d) : VM (oI m (nI a) (nI b) (nI c) (nI d)) n :=
  V.hi (fun i hi => oI_hi (by omega)) (okSM_cg V.2.2.2.1 (fun i _ _ => oI_hi (by omega))) (okH_cg V.2.2.2.2.1 (fun i _ _ => oI_hi (by omega))) (or4 ha hb hc hd h oI_0 oI_1 oI_2 oI_3)
def vo (u : Nat) : Bool := decide ((u / 64 ≠ u / 16 % 4 ∧ u / 64 ≠ u / 4 % 4 ∧ u / 64 ≠ u % 4) ∧ (u / 16 % 4 ≠ u / 4 % 4 ∧ u / 16 % 4 ≠ u % 4) ∧ u / 4 % 4 ≠ u % 4)
theorem sure_c0 : ∀ u, u < 256 → f_X6_isOrder (nI u >>> (6 &&& 31)) ((nI u >>> (4 &&& 31)) &&& 3) ((nI u >>> (2 &&& 31)) &&& 3) (nI u &&& 3) = some (if vo u = true then 1 else 0) := by decide +kernel
theorem sure_c1 : ∀ u, u < 256 → nI u >>> (6 &&& 31) = nI (u / 64) ∧ (nI u >>> (4 &&& 31)) &&& 3 = nI (u / 16 % 4) ∧ (nI u >>> (2 &&& 31)) &&& 3 = nI (u / 4 % 4) ∧ nI u &&& 3 = nI (u % 4) := by decide +kernel
def dgt (u k : Nat) : Nat := if k = 0 then u % 4 else if k = 1 then u / 4 % 4 else if k = 2 then u / 16 % 4 else u / 64
theorem sure_m1 : ∀ u, u < 256 → ∀ k, k < 4 → (nI u >>> ((2 * nI k) &&& 31)) &&& 3 = nI (dgt u k) := by decide +kernel
theorem sets_0 : ∀ u, u < 256 → (match itr (fun s : Int32 × Int32 => f_X7_sets_B4 (nI u) s.1 s.2) 2000 (0, 0) with | some (x, _) => decide (x = 15) == vo u | none => false) = true := by decide +kernel
def ordK (m : Nat → Int32) (u : Nat) : Nat → (Nat → Int32)
  | 0 => m
  | k + 1 => upd (ordK m u k) (152 + k) (nI (dgt u k))
theorem msets {mm : MM} {u : Nat} (hu : u < 256) : f_X7_sets mm (nI u) = if vo u = true then some (1, u2 mm 1 (oI (mm 1) (nI (u % 4)) (nI (u / 4 % 4)) (nI (u / 16 % 4)) (nI (u / 64)))) else some (0, mm) := by
  have h0 := sets_0 u hu
  unfold f_X7_sets
  cases hi : itr (fun s : Int32 × Int32 => f_X7_sets_B4 (nI u) s.1 s.2) 2000 (0, 0) with
  | none => rw [hi] at h0; cases h0
  | some xy =>
    obtain ⟨x, y⟩ := xy
    rw [hi] at h0
    dsimp only at h0
    have hx : decide (x = 15) = vo u := eq_of_beq h0
    rw [Option.bind_some]
    dsimp only
    by_cases hv : vo u = true
    · have e15 : x = 15 := by rw [hv] at hx; exact of_decide_eq_true hx
      have key := itr_seq (step := fun s : Int32 × MM => f_X7_sets_B29 (nI u) x s.1 s.2) (o := (nI 4, u2 mm 1 (ordK (mm 1) u 4))) 4 2000 (fun k => (nI k, u2 mm 1 (ordK (mm 1) u k))) (by omega) ?_ ?_
      · have e0 : ((0 : Int32), mm) = (nI 0, u2 mm 1 (ordK (mm 1) u 0)) := by
          show ((0 : Int32), mm) = (nI 0, u2 mm 1 (mm 1))
          rw [u2_self]; rfl
        rw [e0, key, Option.bind_some, if_pos e15, if_pos hv]
        rfl
      · intro k hk
        dsimp only
        unfold f_X7_sets_B29
        rw [if_neg (show ¬ (4 : Int32) ≤ nI k from nI_ge (b := 4) hk (by omega)), if_pos e15, show (152 : Int32) + nI k = nI (152 + k) from nI_add 152 k, wr_nI _ _ (by omega) (by omega), Option.bind_some, sure_m1 u hu k hk, u2_s, u2_u2, nI_1]
        rfl
      · dsimp only
        unfold f_X7_sets_B29
        rw [if_pos (by decide)]
    · have e15 : ¬ x = 15 := by
        intro q
        rw [decide_eq_true q] at hx
        exact hv hx.symm
      have key : itr (fun s : Int32 × MM => f_X7_sets_B29 (nI u) x s.1 s.2) 2000 (0, mm) = some (0, mm) := by
        rw [itr_succ]
        dsimp only
        unfold f_X7_sets_B29
        rw [if_neg (by decide), if_neg e15]
      rw [key, Option.bind_some, if_neg e15, if_neg hv]
def rv (u : Nat) : Nat := (u % 4) * 64 + (u / 4 % 4) * 16 + (u / 16 % 4) * 4 + u / 64
theorem rv_0 : ∀ u, u < 256 → rv u < 256 ∧ rv (rv u) = u ∧ vo (rv u) = vo u ∧ rv u % 4 = u / 64 ∧ rv u / 4 % 4 = u / 16 % 4 ∧ rv u / 16 % 4 = u / 4 % 4 ∧ rv u / 64 = u % 4 := by decide +kernel
def Mc (m : Nat → Int32) (u : Nat) : Int32 := mem (oI m (nI (u / 64)) (nI (u / 16 % 4)) (nI (u / 4 % 4)) (nI (u % 4)))
def Mm (m : Nat → Int32) (u : Nat) : Int32 := mem (oI m (nI (u % 4)) (nI (u / 4 % 4)) (nI (u / 16 % 4)) (nI (u / 64)))
theorem Mm_rv {m : Nat → Int32} {u : Nat} (h : u < 256) : Mm m (rv u) = Mc m u := by
  obtain ⟨-, -, -, e1, e2, e3, e4⟩ := rv_0 u h
  unfold Mm Mc
  rw [e1, e2, e3, e4]
theorem vo_d {u : Nat} (h : vo u = true) : (u / 64 ≠ u / 16 % 4 ∧ u / 64 ≠ u / 4 % 4 ∧ u / 64 ≠ u % 4) ∧ (u / 16 % 4 ≠ u / 4 % 4 ∧ u / 16 % 4 ≠ u % 4) ∧ u / 4 % 4 ≠ u % 4 := of_decide_eq_true h
theorem b_and1 {x y : Int32} {i : Nat} : bt (x &&& y) i = true ↔ bt x i = true ∧ bt y i = true := by rw [b_and, Bool.and_eq_true]
theorem b_or1 {x y : Int32} {i : Nat} : bt (x ||| y) i = true ↔ bt x i = true ∨ bt y i = true := by rw [b_or, Bool.or_eq_true]
theorem each_0 : ∀ n, n < 17 → ∀ i, i < 32 → bt ((1 <<< (nI n &&& 31)) - 1) i = decide (i < n) := by decide +kernel
theorem osure {cm : CM} {m : Nat → Int32} {n : Nat} (l : lay (cm 1 1) m) (V : VM m n) : ∃ al ev x c, itr (fun s : Int32 × Int32 × Int32 × CM => f_X6_sure_B30 s.1 s.2.1 s.2.2.1 s.2.2.2) 2000 (65535, 0, 0, u3 cm 28 1 (va_cpy (cm 1 1) (cm 28 1) 0 0 159)) = some (al, ev, x, c) ∧ (∀ o, o ≠ 28 → o ≠ 29 → c o = cm o) ∧ (∀ i, i < 32 → (bt al i = true ↔ i < 16 ∧ ∀ u, u < 256 → vo u = true → bt (Mc m u) i = true)) ∧ (∀ i, i < 32 → (bt ev i = true ↔ ∃ u, u < 256 ∧ vo u = true ∧ bt (Mc m u) i = true)) := by
  have key := itr_for (step := fun s : Int32 × Int32 × Int32 × CM => f_X6_sure_B30 s.1 s.2.1 s.2.2.1 s.2.2.2)
    (fun k s => s.2.2.1 = nI k ∧ (∀ o, o ≠ 28 → o ≠ 29 → s.2.2.2 o = cm o) ∧ (∃ a b d e, s.2.2.2 28 1 = oI (va_cpy (cm 1 1) (cm 28 1) 0 0 159) a b d e) ∧ (∀ i, i < 32 → (bt s.1 i = true ↔ i < 16 ∧ ∀ u, u < k → vo u = true → bt (Mc m u) i = true)) ∧ (∀ i, i < 32 → (bt s.2.1 i = true ↔ ∃ u, u < k ∧ vo u = true ∧ bt (Mc m u) i = true))) 256 (65535, 0, 0, u3 cm 28 1 (va_cpy (cm 1 1) (cm 28 1) 0 0 159)) (by omega) ⟨rfl, fun o h1 _ => u3_o h1, ⟨_, _, _, _, by dsimp only; rw [u3_s]; exact oI_self.symm⟩, fun i hi => by
      dsimp only
      rw [b_65535, decide_eq_true_eq]
      exact ⟨fun h => ⟨h, fun u hu => by omega⟩, fun h => h.1⟩, fun i hi => by
      dsimp only
      rw [b_0]
      exact ⟨fun h => absurd h (by decide), fun ⟨u, hu, _⟩ => by omega⟩⟩ ?_ ?_
  · obtain ⟨⟨al, ev, x, c⟩, i1, -, i2, -, i3, i4⟩ := key
    exact ⟨al, ev, x, c, i1, i2, i3, i4⟩
  · rintro k ⟨al, ev, x, c⟩ hk ⟨e, k1, ⟨a, b, d, f, k2⟩, k3, k4⟩
    dsimp only at e k1 k2 k3 k4
    subst e
    dsimp only
    obtain ⟨g1, g2, g3, g4⟩ := sure_c1 k hk
    unfold f_X6_sure_B30
    rw [if_neg (show ¬ (256 : Int32) ≤ nI k from nI_ge (b := 256) hk (by omega)), sure_c0 k hk, Option.bind_some, if10, nI_1]
    by_cases hv : vo k = true
    · rw [if_pos hv, g1, g2, g3, g4, osetOrder, Option.bind_some, k2]
      have lk : lay (oI (va_cpy (cm 1 1) (cm 28 1) 0 0 159) (nI (k / 64)) (nI (k / 16 % 4)) (nI (k / 4 % 4)) (nI (k % 4))) (oI m (nI (k / 64)) (nI (k / 16 % 4)) (nI (k / 4 % 4)) (nI (k % 4))) := lay_oI (lay_cpy _ l) _ _ _ _
      have Vk := VM_oI V (show k / 64 < 4 by omega) (show k / 16 % 4 < 4 by omega) (show k / 4 % 4 < 4 by omega) (show k % 4 < 4 by omega) (vo_d hv)
      have e4 : upd (upd (upd (upd (oI (va_cpy (cm 1 1) (cm 28 1) 0 0 159) a b d f) 152 (nI (k / 64))) 153 (nI (k / 16 % 4))) 154 (nI (k / 4 % 4))) 155 (nI (k % 4)) = oI (va_cpy (cm 1 1) (cm 28 1) 0 0 159) (nI (k / 64)) (nI (k / 16 % 4)) (nI (k / 4 % 4)) (nI (k % 4)) := oI_oI
      rw [e4]
      obtain ⟨ch, t1, t2, -⟩ := tri (cm := u3 c 28 1 (oI (va_cpy (cm 1 1) (cm 28 1) 0 0 159) (nI (k / 64)) (nI (k / 16 % 4)) (nI (k / 4 % 4)) (nI (k % 4)))) (C := 29) (o := 28) (n := n) (m := oI m (nI (k / 64)) (nI (k / 16 % 4)) (nI (k / 4 % 4)) (nI (k % 4))) (by decide) (by rw [u3_s]; exact OF_of lk Vk)
      have em : ch 0 11 = Mc m k := t2
      unfold f_X0_members
      rw [t1, Option.bind_some, Option.bind_some, Option.bind_some, pC_s, em]
      refine ⟨_, rfl, rfl, fun o h1 h2 => ?_, ⟨nI (k / 64), nI (k / 16 % 4), nI (k / 4 % 4), nI (k % 4), ?_⟩, fun i hi => ?_, fun i hi => ?_⟩
      · dsimp only
        rw [pC_n _ _ h2, u3_o h1]; exact k1 o h1 h2
      · dsimp only
        rw [pC_n _ _ (by decide), u3_s]
      · dsimp only
        rw [b_and1, k3 i hi]
        constructor
        · rintro ⟨⟨h1, h2⟩, h3⟩
          refine ⟨h1, fun u hu hu2 => ?_⟩
          by_cases e : u = k
          · subst e; exact h3
          · exact h2 u (by omega) hu2
        · rintro ⟨h1, h2⟩
          exact ⟨⟨h1, fun u hu => h2 u (by omega)⟩, h2 k (by omega) hv⟩
      · dsimp only
        rw [b_or1, k4 i hi]
        constructor
        · rintro (⟨u, h1, h2, h3⟩ | h)
          · exact ⟨u, by omega, h2, h3⟩
          · exact ⟨k, by omega, hv, h⟩
        · rintro ⟨u, h1, h2, h3⟩
          by_cases e : u = k
          · subst e; exact Or.inr h3
          · exact Or.inl ⟨u, by omega, h2, h3⟩
    · rw [if_neg hv]
      refine ⟨_, rfl, rfl, k1, ⟨a, b, d, f, k2⟩, fun i hi => ?_, fun i hi => ?_⟩
      · dsimp only
        rw [k3 i hi]
        constructor
        · rintro ⟨h1, h2⟩
          refine ⟨h1, fun u hu hu2 => ?_⟩
          by_cases e : u = k
          · subst e; exact absurd hu2 hv
          · exact h2 u (by omega) hu2
        · rintro ⟨h1, h2⟩
          exact ⟨h1, fun u hu => h2 u (by omega)⟩
      · dsimp only
        rw [k4 i hi]
        constructor
        · rintro ⟨u, h1, h2, h3⟩
          exact ⟨u, by omega, h2, h3⟩
        · rintro ⟨u, h1, h2, h3⟩
          by_cases e : u = k
          · subst e; exact absurd h2 hv
          · exact ⟨u, by omega, h2, h3⟩
  · rintro ⟨al, ev, x, c⟩ ⟨e, -⟩
    dsimp only at e
    subst e
    dsimp only
    unfold f_X6_sure_B30
    rw [if_pos (by decide)]
theorem msure {c0 : Nat → Int32} {mm : MM} {n : Nat} (l : lay c0 (mm 1)) (V : VM (mm 1) n) : ∃ al ev x m1, itr (fun s : Int32 × Int32 × Int32 × MM => f_X7_sure_B75 s.1 s.2.1 s.2.2.1 s.2.2.2) 2000 ((1 <<< (nI n &&& 31)) - 1, 0, 0, mm) = some (al, ev, x, m1) ∧ K4 mm m1 ∧ (∃ a b d e, m1 1 = oI (mm 1) a b d e) ∧ (∀ i, i < 32 → (bt al i = true ↔ i < n ∧ ∀ u, u < 256 → vo u = true → bt (Mm (mm 1) u) i = true)) ∧ (∀ i, i < 32 → (bt ev i = true ↔ ∃ u, u < 256 ∧ vo u = true ∧ bt (Mm (mm 1) u) i = true)) := by
  have hn := V.2.1
  have key := itr_for (step := fun s : Int32 × Int32 × Int32 × MM => f_X7_sure_B75 s.1 s.2.1 s.2.2.1 s.2.2.2)
    (fun k s => s.2.2.1 = nI k ∧ K4 mm s.2.2.2 ∧ (∃ a b d e, s.2.2.2 1 = oI (mm 1) a b d e) ∧ (∀ i, i < 32 → (bt s.1 i = true ↔ i < n ∧ ∀ u, u < k → vo u = true → bt (Mm (mm 1) u) i = true)) ∧ (∀ i, i < 32 → (bt s.2.1 i = true ↔ ∃ u, u < k ∧ vo u = true ∧ bt (Mm (mm 1) u) i = true))) 256 ((1 <<< (nI n &&& 31)) - 1, 0, 0, mm) (by omega) ⟨rfl, K4.rf _, ⟨_, _, _, _, oI_self.symm⟩, fun i hi => by
      dsimp only
      rw [each_0 n (by omega) i hi, decide_eq_true_eq]
      exact ⟨fun h => ⟨h, fun u hu => by omega⟩, fun h => h.1⟩, fun i hi => by
      dsimp only
      rw [b_0]
      exact ⟨fun h => absurd h (by decide), fun ⟨u, hu, _⟩ => by omega⟩⟩ ?_ ?_
  · obtain ⟨⟨al, ev, x, m1⟩, i1, -, i2, i5, i3, i4⟩ := key
    exact ⟨al, ev, x, m1, i1, i2, i5, i3, i4⟩
  · rintro k ⟨al, ev, x, m1⟩ hk ⟨e, k1, ⟨a, b, d, f, k2⟩, k3, k4⟩
    dsimp only at e k1 k2 k3 k4
    subst e
    dsimp only
    unfold f_X7_sure_B75
    rw [if_neg (show ¬ (256 : Int32) ≤ nI k from nI_ge (b := 256) hk (by omega)), msets hk, nI_1]
    by_cases hv : vo k = true
    · rw [if_pos hv, Option.bind_some]
      dsimp only
      rw [i10, k2, oI_oI]
      have hd := vo_d hv
      have Vk := VM_oI V (show k % 4 < 4 by omega) (show k / 4 % 4 < 4 by omega) (show k / 16 % 4 < 4 by omega) (show k / 64 < 4 by omega) ⟨⟨Ne.symm hd.2.2, Ne.symm hd.2.1.2, Ne.symm hd.1.2.2⟩, ⟨Ne.symm hd.2.1.1, Ne.symm hd.1.2.1⟩, Ne.symm hd.1.1⟩
      obtain ⟨ch, -, -, -, t4⟩ := tri (cm := fun _ _ => oI c0 (nI (k % 4)) (nI (k / 4 % 4)) (nI (k / 16 % 4)) (nI (k / 64))) (C := 29) (o := 28) (n := n) (m := oI (mm 1) (nI (k % 4)) (nI (k / 4 % 4)) (nI (k / 16 % 4)) (nI (k / 64))) (by decide) (OF_of (lay_oI l _ _ _ _) Vk)
      obtain ⟨m2, u1, -, u3', u4, -⟩ := t4 (u2 m1 1 (oI (mm 1) (nI (k % 4)) (nI (k / 4 % 4)) (nI (k / 16 % 4)) (nI (k / 64)))) (u2_s _ _ _)
      rw [u1, Option.bind_some, u4, Option.bind_some, Option.bind_some]
      refine ⟨_, rfl, rfl, (k1.tr (K4.u _ _)).tr u3'.k, ⟨_, _, _, _, u3'.1.trans (u2_s _ _ _)⟩, fun i hi => ?_, fun i hi => ?_⟩
      · dsimp only
        rw [b_and1, k3 i hi]
        constructor
        · rintro ⟨⟨h1, h2⟩, h3⟩
          refine ⟨h1, fun u hu hu2 => ?_⟩
          by_cases e : u = k
          · subst e; exact h3
          · exact h2 u (by omega) hu2
        · rintro ⟨h1, h2⟩
          exact ⟨⟨h1, fun u hu => h2 u (by omega)⟩, h2 k (by omega) hv⟩
      · dsimp only
        rw [b_or1, k4 i hi]
        constructor
        · rintro (⟨u, h1, h2, h3⟩ | h)
          · exact ⟨u, by omega, h2, h3⟩
          · exact ⟨k, by omega, hv, h⟩
        · rintro ⟨u, h1, h2, h3⟩
          by_cases e : u = k
          · subst e; exact Or.inr h3
          · exact Or.inl ⟨u, by omega, h2, h3⟩
    · rw [if_neg hv, Option.bind_some]
      dsimp only
      rw [i00]
      refine ⟨_, rfl, rfl, k1, ⟨a, b, d, f, k2⟩, fun i hi => ?_, fun i hi => ?_⟩
      · dsimp only
        rw [k3 i hi]
        constructor
        · rintro ⟨h1, h2⟩
          refine ⟨h1, fun u hu hu2 => ?_⟩
          by_cases e : u = k
          · subst e; exact absurd hu2 hv
          · exact h2 u (by omega) hu2
        · rintro ⟨h1, h2⟩
          exact ⟨h1, fun u hu => h2 u (by omega)⟩
      · dsimp only
        rw [k4 i hi]
        constructor
        · rintro ⟨u, h1, h2, h3⟩
          exact ⟨u, by omega, h2, h3⟩
        · rintro ⟨u, h1, h2, h3⟩
          by_cases e : u = k
          · subst e; exact absurd h2 hv
          · exact ⟨u, by omega, h2, h3⟩
  · rintro ⟨al, ev, x, m1⟩ ⟨e, -⟩
    dsimp only at e
    subst e
    dsimp only
    unfold f_X7_sure_B75
    rw [if_pos (by decide)]
theorem op_sure {cm : CM} {mm : MM} (h : INV cm mm) (a1 : Int32) : EQ2 (f_X6_sure cm a1) (f_X7_sure mm a1) := by
  have h' := h
  obtain ⟨n, l, V, R, -⟩ := h
  have hn := V.2.1
  unfold f_X6_sure f_X7_sure
  rcases wtn a1 1 (b := 1) rfl (by omega) with ⟨v, hv, rfl, q1, q2⟩ | ⟨-, q1, q2⟩
  rotate_left
  · rw [q1, q2, Option.bind_some, Option.bind_some, i00, i00]
    exact EQ2.k h' _
  rw [q1, q2, Option.bind_some, Option.bind_some, i10, i10]
  obtain ⟨al, ev, x, c, i1, i2, i3, i4⟩ := osure l V
  obtain ⟨al', ev', x', m1, j1, j2, ⟨a, b, d, e, j5⟩, j3, j4⟩ := msure l V
  obtain ⟨o1, -, o3⟩ := V.2.2.2.2.2
  obtain ⟨k0, hk0, e0⟩ := o1 0 (by omega)
  obtain ⟨k1, hk1, e1⟩ := o1 1 (by omega)
  obtain ⟨k2, hk2, e2⟩ := o1 2 (by omega)
  obtain ⟨k3, hk3, e3⟩ := o1 3 (by omega)
  have ne : ∀ i j, i < 4 → j < 4 → ∀ x y, mm 1 (152 + i) = nI x → mm 1 (152 + j) = nI y → i ≠ j → x ≠ y := by
    intro i j hi hj x y ex ey hij e
    exact hij (o3 i j hi hj (by rw [ex, ey, e]))
  have n01 := ne 0 1 (by omega) (by omega) _ _ e0 e1 (by omega)
  have n02 := ne 0 2 (by omega) (by omega) _ _ e0 e2 (by omega)
  have n03 := ne 0 3 (by omega) (by omega) _ _ e0 e3 (by omega)
  have n12 := ne 1 2 (by omega) (by omega) _ _ e1 e2 (by omega)
  have n13 := ne 1 3 (by omega) (by omega) _ _ e1 e3 (by omega)
  have n23 := ne 2 3 (by omega) (by omega) _ _ e2 e3 (by omega)
  have hw : k0 + 4 * k1 + 16 * k2 + 64 * k3 < 256 := by omega
  have d0 : (k0 + 4 * k1 + 16 * k2 + 64 * k3) % 4 = k0 := by omega
  have d1 : (k0 + 4 * k1 + 16 * k2 + 64 * k3) / 4 % 4 = k1 := by omega
  have d2 : (k0 + 4 * k1 + 16 * k2 + 64 * k3) / 16 % 4 = k2 := by omega
  have d3 : (k0 + 4 * k1 + 16 * k2 + 64 * k3) / 64 = k3 := by omega
  have hvo : vo (k0 + 4 * k1 + 16 * k2 + 64 * k3) = true := by
    unfold vo
    rw [d0, d1, d2, d3]
    exact decide_eq_true ⟨⟨Ne.symm n23, Ne.symm n13, Ne.symm n03⟩, ⟨Ne.symm n12, Ne.symm n02⟩, Ne.symm n01⟩
  have bits : ∀ u, u < 256 → vo u = true → ∀ i, n ≤ i → i < 32 → bt (Mc (mm 1) u) i = false := by
    intro u hu hv2 i h1 h2
    have Vk := VM_oI V (show u / 64 < 4 by omega) (show u / 16 % 4 < 4 by omega) (show u / 4 % 4 < 4 by omega) (show u % 4 < 4 by omega) (vo_d hv2)
    obtain ⟨ch, -, -, t3, -⟩ := tri (cm := fun _ _ => oI (cm 1 1) (nI (u / 64)) (nI (u / 16 % 4)) (nI (u / 4 % 4)) (nI (u % 4))) (C := 29) (o := 28) (n := n) (m := oI (mm 1) (nI (u / 64)) (nI (u / 16 % 4)) (nI (u / 4 % 4)) (nI (u % 4))) (by decide) (OF_of (lay_oI l _ _ _ _) Vk)
    exact t3 i h1 h2
  have eal : al = al' := by
    refine b_ext (fun i hi => ?_)
    have : bt al i = true ↔ bt al' i = true := by
      rw [i3 i hi, j3 i hi]
      constructor
      · rintro ⟨h1, h2⟩
        refine ⟨?_, fun u hu hu2 => ?_⟩
        · have q := h2 27 (by omega) (by decide)
          rcases Nat.lt_or_ge i n with g | g
          · exact g
          · rw [bits 27 (by omega) (by decide) i g hi] at q
            exact absurd q (by decide)
        · obtain ⟨r1, r2, r3, -⟩ := rv_0 u hu
          have := h2 (rv u) r1 (by rw [r3]; exact hu2)
          rw [← Mm_rv r1, r2] at this
          exact this
      · rintro ⟨h1, h2⟩
        refine ⟨by omega, fun u hu hu2 => ?_⟩
        obtain ⟨r1, r2, r3, -⟩ := rv_0 u hu
        rw [← Mm_rv hu]
        exact h2 (rv u) r1 (by rw [r3]; exact hu2)
    exact Bool.eq_iff_iff.mpr this
  have eev : ev = ev' := by
    refine b_ext (fun i hi => ?_)
    have : bt ev i = true ↔ bt ev' i = true := by
      rw [i4 i hi, j4 i hi]
      constructor
      · rintro ⟨u, hu, hu2, h3⟩
        obtain ⟨r1, r2, r3, -⟩ := rv_0 u hu
        exact ⟨rv u, r1, by rw [r3]; exact hu2, by rw [Mm_rv hu]; exact h3⟩
      · rintro ⟨u, hu, hu2, h3⟩
        obtain ⟨r1, r2, r3, -⟩ := rv_0 u hu
        refine ⟨rv u, r1, by rw [r3]; exact hu2, ?_⟩
        rw [← Mm_rv r1, r2]
        exact h3
    exact Bool.eq_iff_iff.mpr this
  have ew : ((nI k0 + 4 * nI k1) + 16 * nI k2) + 64 * nI k3 = nI (k0 + 4 * k1 + 16 * k2 + 64 * k3) := by
    rw [show (4 : Int32) = nI 4 from rfl, show (16 : Int32) = nI 16 from rfl, show (64 : Int32) = nI 64 from rfl, pk_mul, pk_mul, pk_mul, nI_add, nI_add, nI_add]
  have hR : ∀ k : Nat, k < 159 → rd 159 (mm 1) (nI k) = some (mm 1 k) := fun k hk => rd_nI _ hk (by omega)
  unfold f_X3_copyFrom
  rw [Option.bind_some, i1, Option.bind_some]
  dsimp only
  rw [show rd 159 (mm 1) 152 = some (mm 1 152) from hR 152 (by omega), Option.bind_some, show rd 159 (mm 1) 153 = some (mm 1 153) from hR 153 (by omega), Option.bind_some, show rd 159 (mm 1) 154 = some (mm 1 154) from hR 154 (by omega), Option.bind_some, show rd 159 (mm 1) 155 = some (mm 1 155) from hR 155 (by omega), Option.bind_some, rd_157, V.1, Option.bind_some, j1, Option.bind_some]
  dsimp only
  rw [show mm 1 152 = nI k0 from e0, show mm 1 153 = nI k1 from e1, show mm 1 154 = nI k2 from e2, show mm 1 155 = nI k3 from e3, ew, msets hw, if_pos hvo, Option.bind_some, d0, d1, d2, d3, j5, oI_oI, eal, eev]
  have eself : oI (mm 1) (nI k0) (nI k1) (nI k2) (nI k3) = mm 1 := by
    rw [← show mm 1 152 = nI k0 from e0, ← show mm 1 153 = nI k1 from e1, ← show mm 1 154 = nI k2 from e2, ← show mm 1 155 = nI k3 from e3]
    exact oI_self
  rw [eself]
  have hfin : INV c (u2 m1 1 (mm 1)) := h'.k4 (fun o ho => i2 o (by omega) (by omega)) (u2_s _ _ _) (j2.tr (K4.u _ _))
  by_cases hz : nI v = 0
  · rw [if_pos hz, if_pos hz]
    exact ⟨_, _, _, rfl, rfl, hfin⟩
  · rw [if_neg hz, if_neg hz]
    exact ⟨_, _, _, rfl, rfl, hfin⟩
