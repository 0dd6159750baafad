/-! PURE PART: threshold -/
def K4 (a b : MM) : Prop := b 2 = a 2 ∧ b 18 = a 18 ∧ b 0 2 = a 0 2 ∧ b 0 3 = a 0 3
theorem K4.rf (a : MM) : K4 a a := ⟨rfl, rfl, rfl, rfl⟩
theorem K4.tr {a b c : MM} (h1 : K4 a b) (h2 : K4 b c) : K4 a c := ⟨h2.1.trans h1.1, h2.2.1.trans h1.2.1, h2.2.2.1.trans h1.2.2.1, h2.2.2.2.trans h1.2.2.2⟩
theorem K4.u (a : MM) (f : Nat → Int32) : K4 a (u2 a 1 f) := ⟨u2_n _ _ (by decide), u2_n _ _ (by decide), by rw [u2_n _ _ (by decide)], by rw [u2_n _ _ (by decide)]⟩
theorem KM.k {a b : MM} (h : KM a b) : K4 a b := h.2
theorem INV.k4 {cm cm' : CM} {mm mm' : MM} (h : INV cm mm) (h1 : ∀ o, o < 28 → cm' o = cm o) (h2 : mm' 1 = mm 1) (hk : K4 mm mm') : INV cm' mm' := h.kp h1 h2 hk.1 hk.2.2.1 hk.2.2.2
/-- the row with another mark of p -/
def mv (m : Nat → Int32) (p v : Nat) : Nat → Int32 := upd m (8 * p) (nI v)
theorem VM_mv {m : Nat → Int32} {n p v : Nat} (V : VM m n) (hp : p < 16) (hv : v ≤ 99) : VM (mv m p v) n := by
  refine V.pp hp (fun i hi hne => upd_n _ _ (by omega)) (fun hk => ?_)
  refine VP_u (f := 0) (V.2.2.1 p hk) ?_ ?_ ?_ ?_ ?_ ?_ ?_ <;> first | exact fun _ => ⟨v, hv, rfl⟩ | (intro q; exact absurd q (by decide))
theorem lay_mv {c m : Nat → Int32} {p : Nat} (l : lay c m) (hp : p < 16) (v : Nat) : lay (upd c p (nI v)) (mv m p v) := by
  have := lay_up (f := 0) l hp (by omega) (nI v)
  rwa [Nat.mul_zero, Nat.zero_add, Nat.add_zero] at this
/-- how many are ahead of p -/
def plc (m : Nat → Int32) (n p : Nat) : Nat := cntP (fun q => decide (kyM m q < kyM m p)) n
theorem cnt_sub {P Q : Nat → Bool} : ∀ n, (∀ i, i < n → P i = true → Q i = true) → cntP P n ≤ cntP Q n ∧ (cntP P n = cntP Q n → ∀ i, i < n → P i = Q i)
  | 0, _ => ⟨Nat.le_refl _, fun _ i hi => by omega⟩
  | n + 1, h => by
    obtain ⟨h1, h2⟩ := cnt_sub n (fun i hi => h i (by omega))
    rw [cntP_s, cntP_s]
    have hh := h n (by omega)
    cases hp : P n <;> cases hq : Q n
    · simp only [Bool.false_eq_true, if_false, Nat.add_zero]
      refine ⟨h1, fun e i hi => ?_⟩
      by_cases e2 : i = n
      · subst e2; rw [hp, hq]
      · exact h2 e i (by omega)
    · simp only [Bool.false_eq_true, if_false, if_true, Nat.add_zero]
      exact ⟨by omega, fun e => by omega⟩
    · rw [hp, hq] at hh
      exact absurd (hh rfl) (by decide)
    · simp only [if_true]
      refine ⟨by omega, fun e i hi => ?_⟩
      by_cases e2 : i = n
      · subst e2; rw [hp, hq]
      · exact h2 (by omega) i (by omega)
theorem mv_key {m : Nat → Int32} {n p v : Nat} (V : VM m n) (hp : p < n) (hv : v ≤ 99) : (∀ q, q ≠ p → kyM (mv m p v) q = kyM m q) ∧ ∃ t, t ≤ 999 ∧ m (8 * p + 1) = nI t ∧ kyM (mv m p v) p = ((99 - v) * 1000 + t) * 16 + p := by
  obtain ⟨-, t, ht, et⟩ := V.mt p hp
  refine ⟨fun q hq => ?_, t, ht, et, ?_⟩
  · unfold kyM kyN mv
    dsimp only
    rw [upd_n _ _ (by omega), upd_n _ _ (by omega)]
  · refine kyN_of ?_ ?_ hv ht
    · exact upd_s _ _ _
    · show mv m p v (8 * p + 1) = nI t
      unfold mv
      rw [upd_n _ _ (by omega)]; exact et
/-- a mark counts by its place alone -/
theorem mv_mem {c m : Nat → Int32} {n p v w : Nat} (l : lay c m) (V : VM m n) (hp : p < n) (hv : v ≤ 99) (hw : w ≤ v) (h : plc (mv m p v) n p = plc (mv m p w) n p) : mem (mv m p v) = mem (mv m p w) := by
  have hn := V.2.1
  have Vv := VM_mv V (show p < 16 by omega) hv
  have Vw := VM_mv (v := w) V (show p < 16 by omega) (by omega)
  have lw := lay_mv l (show p < 16 by omega) w
  obtain ⟨kv, t, ht, et, kvp⟩ := mv_key V hp hv
  obtain ⟨kw, t', ht', et', kwp⟩ := mv_key (v := w) V hp (by omega)
  have ett : t = t' := (nI_eq (by omega) (by omega)).mp (et.symm.trans et')
  subst ett
  have hinj : injK (kyM (mv m p w)) n := kyN_inj Vw.mt hn
  have hinj' : injK (kyM (mv m p v)) n := kyN_inj Vv.mt hn
  have hle : kyM (mv m p v) p ≤ kyM (mv m p w) p := by rw [kvp, kwp]; omega
  have hq : ∀ q, q < n → (kyM (mv m p v) q < kyM (mv m p v) p ↔ kyM (mv m p w) q < kyM (mv m p w) p) := by
    obtain ⟨-, h2⟩ := cnt_sub (P := fun q => decide (kyM (mv m p v) q < kyM (mv m p v) p)) (Q := fun q => decide (kyM (mv m p w) q < kyM (mv m p w) p)) n (fun q _ e => by
      rw [decide_eq_true_eq] at e ⊢
      by_cases e2 : q = p
      · subst e2; omega
      · rw [kv q e2] at e
        rw [kw q e2]
        omega)
    intro q hq
    exact decide_eq_decide.mp (h2 h q hq)
  refine (mem_eq (OF_of lw Vw) ?_).symm
  refine OF_gen (fun i h1 h2 => ?_) Vv (lay_mt lw Vw) ?_
  · have hne : mi i ≠ 8 * p := fun e => by
      have := mi_inj (i := i) (j := p) h2 (by omega) (by rw [e]; have := mi_p (p := p) (f := 0) (by omega) (by omega); rw [Nat.mul_zero, Nat.zero_add, Nat.add_zero] at this; exact this.symm)
      omega
    unfold mv
    rw [upd_n _ _ (by omega), upd_n _ _ hne]
    exact l i h2
  · refine srt_congr n (fun a b ha hb => ?_)
    rw [lay_ky lw (show a < 16 by omega), lay_ky lw (show b < 16 by omega)]
    by_cases ea : a = p
    · by_cases eb : b = p
      · subst ea; subst eb; simp
      · subst ea
        have h1 := hq b hb
        have h2 : kyM (mv m a w) a ≠ kyM (mv m a w) b := fun e => eb (hinj a b ha hb e).symm
        have h3 : kyM (mv m a v) a ≠ kyM (mv m a v) b := fun e => eb (hinj' a b ha hb e).symm
        omega
    · by_cases eb : b = p
      · subst eb
        exact (hq a ha).symm
      · rw [kv a ea, kv b eb, kw a ea, kw b eb]
def isT (m : Nat → Int32) (p : Nat) (t : Int32) : Prop := (t = -9 ∧ ∀ v, v ≤ 99 → ¬ bt (mem (mv m p v)) p = true) ∨ ∃ v, v ≤ 99 ∧ t = nI v ∧ bt (mem (mv m p v)) p = true ∧ ∀ w, w < v → ¬ bt (mem (mv m p w)) p = true
theorem isT.u {m : Nat → Int32} {p : Nat} {t t' : Int32} (h : isT m p t) (h' : isT m p t') : t = t' := by
  rcases h with ⟨e, h⟩ | ⟨v, hv, e, h1, h2⟩
  · rcases h' with ⟨e', h'⟩ | ⟨v', hv', e', h1', h2'⟩
    · rw [e, e']
    · exact absurd h1' (h v' hv')
  · rcases h' with ⟨e', h'⟩ | ⟨v', hv', e', h1', h2'⟩
    · exact absurd h1 (h' v hv)
    · have : v = v' := by
        rcases Nat.lt_trichotomy v v' with q | q | q
        · exact absurd h1 (h2' v q)
        · exact q
        · exact absurd h1' (h2 v' q)
      rw [e, e', this]
theorem oleast {cm : CM} {m : Nat → Int32} {n p : Nat} (l : lay (cm 1 1) m) (V : VM m n) (hp : p < n) : ∃ t cm', f_X6_leastMark cm (nI p) = some (t, cm') ∧ isT m p t ∧ ∀ o, o ≠ 28 → o ≠ 29 → cm' o = cm o := by
  have hn := V.2.1
  have hp16 : p < 16 := by omega
  have key := itr_inv (step := fun s : Int32 × Int32 × CM => f_X6_leastMark_B16 (nI p) s.1 s.2.1 s.2.2)
    (fun v s => s.2.1 = nI v ∧ (∀ o, o ≠ 28 → o ≠ 29 → s.2.2 o = cm o) ∧ (∃ μ, s.2.2 28 1 = upd (va_cpy (cm 1 1) (cm 28 1) 0 0 159) p μ) ∧ (∀ w, w < v → ¬ bt (mem (mv m p w)) p = true) ∧ (s.1 = -9 ∨ ∃ w, w < v ∧ s.1 = nI (plc (mv m p w) n p)))
    (fun o => match o with | .inl a => (∀ o, o ≠ 28 → o ≠ 29 → a.2.2 o = cm o) ∧ isT m p (-9) | .inr r => (∀ o, o ≠ 28 → o ≠ 29 → r.2 o = cm o) ∧ isT m p r.1) 100 ?_ ?_ 2000 0 (-9, 0, u3 cm 28 1 (va_cpy (cm 1 1) (cm 28 1) 0 0 159)) (Nat.zero_le _) (by omega) ⟨rfl, fun o h1 _ => u3_o h1, ⟨va_cpy (cm 1 1) (cm 28 1) 0 0 159 p, by dsimp only; rw [u3_s, upd_self]⟩, fun w hw => by omega, Or.inl rfl⟩
  · obtain ⟨o, i1, i2⟩ := key
    unfold f_X6_leastMark f_X3_copyFrom
    rw [Option.bind_some, i1, Option.bind_some]
    cases o with
    | inl a => exact ⟨_, _, rfl, i2.2, i2.1⟩
    | inr r => exact ⟨_, _, rfl, i2.2, i2.1⟩
  · rintro v ⟨tr, x, c⟩ hv ⟨e, k1, ⟨μ, k2⟩, k3, k4⟩
    dsimp only at e k1 k2 k3 k4
    subst e
    dsimp only
    have lv : lay (upd (va_cpy (cm 1 1) (cm 28 1) 0 0 159) p (nI v)) (mv m p v) := lay_mv (lay_cpy _ l) hp16 v
    have Vv := VM_mv V hp16 (show v ≤ 99 by omega)
    have hpl : cntP (fun q => decide (kyC (upd (va_cpy (cm 1 1) (cm 28 1) 0 0 159) p (nI v)) q < kyC (upd (va_cpy (cm 1 1) (cm 28 1) 0 0 159) p (nI v)) p)) n = plc (mv m p v) n p := cntP_congr n (fun i hi => by rw [lay_ky lv (show i < 16 by omega), lay_ky lv hp16])
    have hple : plc (mv m p v) n p ≤ n := cntP_le _ _
    unfold f_X6_leastMark_B16
    rw [show (99 : Int32) = nI 99 from rfl, iflt (by omega) (by omega), if_neg (by omega), os_0 hp16, k2, upd_upd, Option.bind_some, ocountAhead (n := n) (by rw [u3_s]; exact lay_mt lv Vv) (by rw [u3_s, ly_158 lv]; exact Vv.1) hp hn, u3_s, hpl, Option.bind_some]
    by_cases ht : nI (plc (mv m p v) n p) = tr
    · rw [if_pos ht, nI_1]
      have hnot : ¬ bt (mem (mv m p v)) p = true := by
        rcases k4 with k4 | ⟨w, hw, k4⟩
        · rw [k4] at ht
          exact absurd ht (m9_ne (by omega))
        · have hb : plc (mv m p w) n p ≤ n := cntP_le _ _
          rw [k4] at ht
          rw [mv_mem l V hp (by omega) (by omega) ((nI_eq (by omega) (by omega)).mp ht)]
          exact k3 w hw
      refine Or.inl ⟨_, rfl, rfl, fun o h1 h2 => ?_, ⟨nI v, by dsimp only; rw [u3_s]⟩, fun w hw => ?_, ?_⟩
      · dsimp only
        rw [u3_o h1]; exact k1 o h1 h2
      · by_cases e : w = v
        · subst e; exact hnot
        · exact k3 w (by omega)
      · rcases k4 with k4 | ⟨w, hw, k4⟩
        · exact Or.inl k4
        · exact Or.inr ⟨w, by omega, k4⟩
    · rw [if_neg ht]
      obtain ⟨ch, t1, t2, -⟩ := tri (cm := u3 c 28 1 (upd (va_cpy (cm 1 1) (cm 28 1) 0 0 159) p (nI v))) (C := 29) (o := 28) (n := n) (m := mv m p v) (by decide) (by rw [u3_s]; exact OF_of lv Vv)
      rw [t1, Option.bind_some, ohas (by omega), t2, Option.bind_some, if10]
      by_cases hb : bt (mem (mv m p v)) p = true
      · rw [if_pos hb]
        refine Or.inr ⟨_, rfl, fun o h1 h2 => ?_, Or.inr ⟨v, by omega, rfl, hb, k3⟩⟩
        dsimp only
        rw [pC_n _ _ h2, u3_o h1]; exact k1 o h1 h2
      · rw [if_neg hb, nI_1]
        refine Or.inl ⟨_, rfl, rfl, fun o h1 h2 => ?_, ⟨nI v, ?_⟩, fun w hw => ?_, Or.inr ⟨v, by omega, rfl⟩⟩
        · dsimp only
          rw [pC_n _ _ h2, u3_o h1]; exact k1 o h1 h2
        · dsimp only
          rw [pC_n _ _ (by decide), u3_s]
        · by_cases e : w = v
          · subst e; exact hb
          · exact k3 w (by omega)
  · rintro ⟨tr, x, c⟩ ⟨e, k1, ⟨μ, k2⟩, k3, k4⟩
    dsimp only at e k1 k2 k3 k4
    subst e
    dsimp only
    unfold f_X6_leastMark_B16
    rw [if_pos (by decide)]
    exact ⟨_, rfl, k1, Or.inl ⟨rfl, fun v hv => k3 v (by omega)⟩⟩
theorem mthr {c : Nat → Int32} {mm : MM} {n p : Nat} (l : lay c (mm 1)) (V : VM (mm 1) n) (hp : p < n) : ∃ t mm', f_X7_thresholdOf mm (nI p) = some (t, mm') ∧ isT (mm 1) p t ∧ mm' 1 = mm 1 ∧ K4 mm mm' := by
  have hn := V.2.1
  have hp16 : p < 16 := by omega
  have key := itr_inv (step := fun s : Int32 × Int32 × MM => f_X7_thresholdOf_B13 (nI p) s.1 s.2.1 s.2.2)
    (fun v s => s.2.1 = nI v ∧ (∃ μ, s.2.2 1 = upd (mm 1) (8 * p) μ) ∧ K4 mm s.2.2 ∧ ((s.1 = -9 ∧ ∀ w, w < v → ¬ bt (mem (mv (mm 1) p w)) p = true) ∨ ∃ u, u ≤ 99 ∧ s.1 = nI u ∧ bt (mem (mv (mm 1) p u)) p = true ∧ ∀ w, w < u → ¬ bt (mem (mv (mm 1) p w)) p = true))
    (fun o => (∃ μ, o.2.2 1 = upd (mm 1) (8 * p) μ) ∧ K4 mm o.2.2 ∧ isT (mm 1) p o.1) 100 ?_ ?_ 2000 0 (-9, 0, mm) (Nat.zero_le _) (by omega) ⟨rfl, ⟨_, (upd_self _ _).symm⟩, K4.rf _, Or.inl ⟨rfl, fun w hw => by omega⟩⟩
  · obtain ⟨⟨a, b, d⟩, i1, ⟨μ, i2⟩, i3, i4⟩ := key
    dsimp only at i2 i3 i4
    unfold f_X7_thresholdOf
    rw [mo_0 hp16, Option.bind_some, i1, Option.bind_some]
    dsimp only
    rw [mb_0 hp16, Option.bind_some, i2, upd_upd, upd_self]
    exact ⟨_, _, rfl, i4, u2_s _ _ _, i3.tr (K4.u _ _)⟩
  · rintro v ⟨a, x, d⟩ hv ⟨e, ⟨μ, k1⟩, k2, k3⟩
    dsimp only at e k1 k2 k3
    subst e
    dsimp only
    unfold f_X7_thresholdOf_B13
    rw [show (99 : Int32) = nI 99 from rfl, iflt (by omega) (by omega), if_neg (by omega)]
    rcases k3 with ⟨ea, k3⟩ | ⟨u, hu, ea, k3⟩
    · rw [if_pos ea, mb_0 hp16, k1, upd_upd, Option.bind_some]
      obtain ⟨mm1, b1, b2⟩ := mis (p := p) (mm0 := u2 d 1 (upd (mm 1) (8 * p) (nI v))) (OF_of (lay_mv l hp16 v) (VM_mv V hp16 (show v ≤ 99 by omega))) hp (u2_s _ _ _)
      rw [b1, Option.bind_some]
      dsimp only
      rw [if10, nI_1]
      have e1 : mm1 1 = upd (mm 1) (8 * p) (nI v) := b2.1.trans (u2_s _ _ _)
      have hk := (k2.tr (K4.u _ _)).tr b2.k
      by_cases hb : bt (mem (mv (mm 1) p v)) p = true
      · rw [if_pos hb]
        exact Or.inl ⟨_, rfl, rfl, ⟨_, e1⟩, hk, Or.inr ⟨v, by omega, rfl, hb, k3⟩⟩
      · rw [if_neg hb]
        refine Or.inl ⟨_, rfl, rfl, ⟨_, e1⟩, hk, Or.inl ⟨rfl, fun w hw => ?_⟩⟩
        by_cases e : w = v
        · subst e; exact hb
        · exact k3 w (by omega)
    · rw [if_neg (by rw [ea]; exact m9_ne (by omega))]
      exact Or.inr ⟨_, rfl, ⟨μ, k1⟩, k2, Or.inr ⟨u, hu, ea, k3⟩⟩
  · rintro ⟨a, x, d⟩ ⟨e, ⟨μ, k1⟩, k2, k3⟩
    dsimp only at e k1 k2 k3
    subst e
    dsimp only
    unfold f_X7_thresholdOf_B13
    rw [if_pos (by decide)]
    refine ⟨_, rfl, ⟨μ, k1⟩, k2, ?_⟩
    rcases k3 with ⟨ea, k3⟩ | k3
    · exact Or.inl ⟨ea, fun v hv => k3 v (by omega)⟩
    · exact Or.inr k3
theorem op_threshold {cm : CM} {mm : MM} (h : INV cm mm) (a1 : Int32) : EQ2 (f_X6_threshold cm a1) (f_X7_threshold mm a1) := by
  have h' := h
  obtain ⟨n, l, V, R, -⟩ := h
  have hn := V.2.1
  unfold f_X6_threshold f_X7_threshold
  rcases prsn l V a1 with ⟨p, hpn, rfl, q1, q2⟩ | ⟨-, q1, q2⟩
  rotate_left
  · rw [q1, q2, Option.bind_some, Option.bind_some, i00, i00]
    exact EQ2.k h' _
  have hp : p < 16 := by omega
  rw [q1, q2, Option.bind_some, Option.bind_some, i10, i10, oactive hp, Option.bind_some, mactive hp, Option.bind_some, ly_64 l hp]
  by_cases ha : 2 < mm 1 (8 * p + 4)
  · rw [if_pos ha, i00, i00]
    exact EQ2.k h' _
  obtain ⟨t, cm', a1, a2, a3⟩ := oleast l V hpn
  obtain ⟨t', mm', b1, b2, b3, b4⟩ := mthr l V hpn
  rw [if_neg ha, i10, i10, a1, b1, Option.bind_some, Option.bind_some, a2.u b2]
  exact ⟨_, _, _, rfl, rfl, h'.k4 (fun o ho => a3 o (by omega) (by omega)) b3 b4⟩
