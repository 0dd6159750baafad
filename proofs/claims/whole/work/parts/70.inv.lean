/-! PURE PART: what holds between the class and the reference before and behind each call -/
/-- where the class's cell i stands in the reference's row -/
def mi (i : Nat) : Nat := if i < 128 then 8 * (i % 16) + i / 16 else if i = 157 then 158 else if i = 158 then 157 else i
def lay (c m : Nat → Int32) : Prop := ∀ i, i < 159 → c i = m (mi i)
theorem mi_lt {i : Nat} (h : i < 159) : mi i < 159 := by unfold mi; split <;> (try split) <;> (try split) <;> omega
theorem mi_inj {i j : Nat} (hi : i < 159) (hj : j < 159) (h : mi i = mi j) : i = j := by
  unfold mi at h
  split at h <;> split at h <;> (try split at h) <;> (try split at h) <;> (try split at h) <;> (try split at h) <;> omega
theorem mi_p {p f : Nat} (hp : p < 16) (hf : f < 8) : mi (16 * f + p) = 8 * p + f := by
  unfold mi
  rw [if_pos (by omega)]
  omega
theorem mi_hi {i : Nat} (h : 128 ≤ i) (h2 : i < 157) : mi i = i := by
  unfold mi
  rw [if_neg (by omega), if_neg (by omega), if_neg (by omega)]
theorem lay_upd {c m : Nat → Int32} {j : Nat} (h : lay c m) (hj : j < 159) (v : Int32) : lay (upd c j v) (upd m (mi j) v) := by
  intro i hi
  by_cases e : i = j
  · subst e; rw [upd_s, upd_s]
  · rw [upd_n _ _ e, upd_n _ _ (fun q => e (mi_inj hi hj q))]; exact h i hi
theorem ly_p {c m : Nat → Int32} {p : Nat} (h : lay c m) {f : Nat} (hp : p < 16) (hf : f < 8) : c (16 * f + p) = m (8 * p + f) := by rw [h _ (by omega), mi_p hp hf]
theorem ly_0 {c m : Nat → Int32} {p : Nat} (h : lay c m) (hp : p < 16) : c p = m (8 * p) := by have := ly_p (f := 0) h hp (by omega); rwa [Nat.mul_zero, Nat.zero_add, Nat.add_zero] at this
theorem ly_16 {c m : Nat → Int32} {p : Nat} (h : lay c m) (hp : p < 16) : c (16 + p) = m (8 * p + 1) := ly_p (f := 1) h hp (by omega)
theorem ly_32 {c m : Nat → Int32} {p : Nat} (h : lay c m) (hp : p < 16) : c (32 + p) = m (8 * p + 2) := ly_p (f := 2) h hp (by omega)
theorem ly_48 {c m : Nat → Int32} {p : Nat} (h : lay c m) (hp : p < 16) : c (48 + p) = m (8 * p + 3) := ly_p (f := 3) h hp (by omega)
theorem ly_64 {c m : Nat → Int32} {p : Nat} (h : lay c m) (hp : p < 16) : c (64 + p) = m (8 * p + 4) := ly_p (f := 4) h hp (by omega)
theorem ly_80 {c m : Nat → Int32} {p : Nat} (h : lay c m) (hp : p < 16) : c (80 + p) = m (8 * p + 5) := ly_p (f := 5) h hp (by omega)
theorem ly_96 {c m : Nat → Int32} {p : Nat} (h : lay c m) (hp : p < 16) : c (96 + p) = m (8 * p + 6) := ly_p (f := 6) h hp (by omega)
theorem ly_112 {c m : Nat → Int32} {p : Nat} (h : lay c m) (hp : p < 16) : c (112 + p) = m (8 * p + 7) := ly_p (f := 7) h hp (by omega)
theorem ly_hi {c m : Nat → Int32} (h : lay c m) {i : Nat} (h1 : 128 ≤ i) (h2 : i < 157) : c i = m i := by rw [h _ (by omega), mi_hi h1 h2]
theorem ly_157 {c m : Nat → Int32} (h : lay c m) : c 157 = m 158 := by rw [h _ (by omega)]; rfl
theorem ly_158 {c m : Nat → Int32} (h : lay c m) : c 158 = m 157 := by rw [h _ (by omega)]; rfl
/-- one person's cells in range -/
def VP (m : Nat → Int32) (p : Nat) : Prop := isN (m (8 * p)) 99 ∧ isN (m (8 * p + 1)) 999 ∧ isN (m (8 * p + 2)) 3 ∧ isN (m (8 * p + 3)) 15 ∧ isN (m (8 * p + 4)) 4 ∧ oN (m (8 * p + 5)) 4 ∧ oN (m (8 * p + 6)) 4
/-- the reference's row in range -/
def VM (m : Nat → Int32) (n : Nat) : Prop := m 157 = nI n ∧ n ≤ 16 ∧ (∀ p, p < n → VP m p) ∧ okSM m ∧ okH m ∧ okOr m
theorem VM.mt {m : Nat → Int32} {n : Nat} (h : VM m n) : okMT (fun p => m (8 * p)) (fun p => m (8 * p + 1)) n := fun p hp => by
  obtain ⟨v1, v2, -⟩ := h.2.2.1 p hp
  exact ⟨v1, v2⟩
theorem VM.gv {m : Nat → Int32} {n : Nat} (h : VM m n) : okV m n := fun p hp => by
  obtain ⟨-, -, -, ⟨j, h1, h2⟩, -⟩ := h.2.2.1 p hp
  exact ⟨j, by omega, h2⟩
/-- offices alike but for the marks: alike for a choice, if the ranking is -/
theorem OF_gen {c m : Nat → Int32} {n : Nat} (hl : ∀ i, 16 ≤ i → i < 159 → c i = m (mi i)) (hV : VM m n) (hm : okMT c (fun p => c (16 + p)) n) (hs : srt (kyC c) n = srt (kyM m) n) : OF c m n := by
  obtain ⟨v1, v2, v3, v4, v5, v6⟩ := hV
  have lp : ∀ f p, 1 ≤ f → f < 8 → p < 16 → c (16 * f + p) = m (8 * p + f) := fun f p h1 h2 h3 => by rw [hl _ (by omega) (by omega), mi_p h3 h2]
  have lh : ∀ i, 128 ≤ i → i < 157 → c i = m i := fun i h1 h2 => by rw [hl _ (by omega) (by omega), mi_hi h1 h2]
  have l2 : ∀ p, p < 16 → c (32 + p) = m (8 * p + 2) := fun p hp => lp 2 p (by omega) (by omega) hp
  have l3 : ∀ p, p < 16 → c (48 + p) = m (8 * p + 3) := fun p hp => lp 3 p (by omega) (by omega) hp
  have l4 : ∀ p, p < 16 → c (64 + p) = m (8 * p + 4) := fun p hp => lp 4 p (by omega) (by omega) hp
  have l5 : ∀ p, p < 16 → c (80 + p) = m (8 * p + 5) := fun p hp => lp 5 p (by omega) (by omega) hp
  have l6 : ∀ p, p < 16 → c (96 + p) = m (8 * p + 6) := fun p hp => lp 6 p (by omega) (by omega) hp
  have hV' : VM m n := ⟨v1, v2, v3, v4, v5, v6⟩
  refine ⟨by rw [hl _ (by omega) (by omega)]; exact v1, ⟨v1, v2, fun p hp => ⟨l2 p (by omega), l3 p (by omega), l4 p (by omega)⟩, fun k hk => ⟨lh _ (by omega) (by omega), lh _ (by omega) (by omega)⟩, lh _ (by omega) (by omega)⟩, hm, hV'.mt, hs, ⟨fun k hk => ?_, fun i hi => ?_, fun p hp => ?_⟩, v4, fun k hk => ?_, fun i hi => ?_, fun p hp => ?_, hV'.gv, v5, v6⟩
  · rw [lh _ (by omega) (by omega)]; exact v4.1 k hk
  · rw [lh _ (by omega) (by omega)]; exact v4.2 i hi
  · obtain ⟨-, -, -, -, -, q1, q2⟩ := v3 p hp
    rw [l5 p (by omega), l6 p (by omega)]
    exact ⟨q1, q2⟩
  · unfold frC frM frz
    rw [lh _ (by omega) (by omega)]
    congr 1
    exact cntP_congr n (fun i hi => by simp only [l4 i (show i < 16 by omega), l5 i (show i < 16 by omega)])
  · unfold fgC fgM frg
    rw [lh _ (by omega) (by omega)]
    congr 1
    exact cntP_congr n (fun i hi => by simp only [l4 i (show i < 16 by omega), l5 i (show i < 16 by omega), l6 i (show i < 16 by omega)])
  · obtain ⟨-, -, ⟨j, h1, h2⟩, -⟩ := v3 p hp
    exact ⟨j, by omega, by rw [l2 p (by omega)]; exact h2⟩
theorem lay_mt {c m : Nat → Int32} {n : Nat} (h : lay c m) (hV : VM m n) : okMT c (fun p => c (16 + p)) n := fun p hp => by
  have hn := hV.2.1
  have := hV.mt p hp
  dsimp only
  rw [ly_0 h (by omega), ly_16 h (by omega)]
  exact this
theorem lay_ky {c m : Nat → Int32} {p : Nat} (h : lay c m) (hp : p < 16) : kyC c p = kyM m p := by
  unfold kyC kyM kyN
  dsimp only
  rw [ly_0 h hp, ly_16 h hp]
theorem OF_of {c m : Nat → Int32} {n : Nat} (h : lay c m) (hV : VM m n) : OF c m n := by
  have hn := hV.2.1
  refine OF_gen (fun i _ hi => h i hi) hV (lay_mt h hV) (srt_congr n (fun p q hp hq => ?_))
  rw [lay_ky h (by omega), lay_ky h (by omega)]
/-! the diary -/
def pg (mm : MM) (i : Nat) : Nat → Int32 := fun j => mm 2 (159 * i + j)
def PG (cm : CM) (mm : MM) (i : Nat) : Prop := lay (cm (3 + i) 1) (pg mm i) ∧ ∃ n, VM (pg mm i) n
def RG (cm : CM) (mm : MM) : Prop := ∃ a b, a < 24 ∧ b ≤ 24 ∧ cm 2 0 1 = nI a ∧ mm 0 3 = nI a ∧ cm 2 0 2 = nI b ∧ mm 0 2 = nI b ∧ ∀ d, 1 ≤ d → d ≤ b → PG cm mm ((a + 24 - d) % 24)
/-! the cached choice -/
def CHM (c m : Nat → Int32) (n : Nat) (ch mm : MM) : Prop := CH c m n (srt (kyM m) n) (frM m n) (fgM m n) ch mm ∧ EM n (frM m n) mm
def CW (c m : Nat → Int32) (n : Nat) (ch mm : MM) : Prop := ∃ ch0, CHM c m n ch0 mm ∧ keeps [12, 18, 20] ch0 ch
def CC (c m : Nat → Int32) (n : Nat) (ch : MM) : Prop := ∀ mm0 : MM, mm0 1 = m → (∃ mm1, f_X7_choose mm0 = some mm1 ∧ CW c m n ch mm1 ∧ KM mm0 mm1) ∧ ∃ mm2, f_X7_chooseAll mm0 = some mm2 ∧ CHM c m n ch mm2 ∧ KM mm0 mm2
def INV (cm : CM) (mm : MM) : Prop := ∃ n, lay (cm 1 1) (mm 1) ∧ VM (mm 1) n ∧ RG cm mm ∧ (cm 0 0 7 = 0 → CC (cm 1 1) (mm 1) n (cm 27))
theorem pC_inj {cm : CM} {C : Nat} {a b : MM} (h : pC cm C a = pC cm C b) : a = b := by
  have := congrFun h C
  rwa [pC_s, pC_s] at this
/-- a choice and its counting, for every scratch of the reference -/
theorem made {cm : CM} {C o n : Nat} {m : Nat → Int32} {mm : MM} (hoC : o ≠ C) (hO : OF (cm o 1) m n) (hmm : mm 1 = m) :
    ∃ ch1 ch2, f_X0_make cm C o = some (pC cm C ch1) ∧ f_X0_assignGroups (pC cm C ch1) C o = some (pC cm C ch2) ∧ keeps [12, 18, 20] ch1 ch2 ∧ ∀ mm0 : MM, mm0 1 = m → ∃ mm1 mm2, f_X7_choose mm0 = some mm1 ∧ CHM (cm o 1) m n ch1 mm1 ∧ KM mm0 mm1 ∧ f_X7_chooseAll mm0 = some mm2 ∧ CHM (cm o 1) m n ch2 mm2 ∧ KM mm0 mm2 := by
  obtain ⟨ch1, mm1, a1, a2, a3, a4, a5⟩ := make_2 (cm := cm) (C := C) (ch := cm C) (mm := mm) hoC (by rw [hmm]; exact hO)
  rw [pC_self] at a1
  rw [hmm] at a3 a4
  obtain ⟨ch2, mm2, x, b1, b2, b3, b4, b5, b6⟩ := count_all (cm := cm) (C := C) hoC hO.2.1 hO.2.2.2.2.2.2.2.2.2.2.1 (okR_srt _ _) a3 a4
  refine ⟨ch1, ch2, a1, b1, b6, fun mm0 h0 => ?_⟩
  obtain ⟨ch1', mm1', c1, c2, c3, c4, c5⟩ := make_2 (cm := cm) (C := C) (ch := cm C) (mm := mm0) hoC (by rw [h0]; exact hO)
  rw [pC_self, a1] at c1
  have e1 := pC_inj (Option.some.inj c1)
  subst e1
  rw [h0] at c3 c4
  obtain ⟨ch2', mm2', x', d1, d2, d3, d4, d5, d6⟩ := count_all (cm := cm) (C := C) hoC hO.2.1 hO.2.2.2.2.2.2.2.2.2.2.1 (okR_srt _ _) c3 c4
  rw [b1] at d1
  have e2 := pC_inj (Option.some.inj d1)
  subst e2
  refine ⟨mm1', mm2', c2, ⟨c3, c4⟩, c5, ?_, ⟨d3, d4⟩, c5.tr d5⟩
  unfold f_X7_chooseAll
  rw [c2, Option.bind_some, d2, Option.bind_some]
theorem present {cm : CM} {mm : MM} {n : Nat} (hl : lay (cm 1 1) (mm 1)) (hV : VM (mm 1) n) (hR : RG cm mm) (hc : cm 0 0 7 = 0 → CC (cm 1 1) (mm 1) n (cm 27)) :
    ∃ cm', f_X6_presentChoice cm = some cm' ∧ (∀ o, o ≠ 27 → o ≠ 0 → cm' o = cm o) ∧ cm' 0 0 7 = 0 ∧ CC (cm 1 1) (mm 1) n (cm' 27) := by
  by_cases h : cm 0 0 7 = 0
  · refine ⟨cm, ?_, fun _ _ _ => rfl, h, hc h⟩
    unfold f_X6_presentChoice
    rw [if_pos h]
  · obtain ⟨ch1, ch2, a1, a2, a3, a4⟩ := made (cm := cm) (C := 27) (o := 1) (n := n) (mm := mm) (by decide) (OF_of hl hV) rfl
    refine ⟨u3 (pC cm 27 ch2) 0 0 (upd ((pC cm 27 ch2) 0 0) 7 0), ?_, fun o h1 h2 => ?_, ?_, fun mm0 h0 => ?_⟩
    · unfold f_X6_presentChoice
      rw [if_neg h, a1, Option.bind_some, a2, Option.bind_some]
    · rw [u3_pC, pC_n _ _ h2, pC_n _ _ h1]
    · rw [u3_pC, pC_s, u2_s, upd_s]
    · obtain ⟨mm1, mm2, b1, b2, b3, b4, b5, b6⟩ := a4 mm0 h0
      rw [u3_pC, pC_n (C := 0) (a := 27) _ _ (by decide), pC_s]
      exact ⟨⟨mm1, b1, ⟨ch1, b2, a3⟩, b3⟩, ⟨mm2, b4, b5, b6⟩⟩
theorem RG.kp {cm cm' : CM} {mm mm' : MM} (h : RG cm mm) (h1 : ∀ o, 2 ≤ o → o < 27 → cm' o = cm o) (h2 : mm' 2 = mm 2) (h3 : mm' 0 2 = mm 0 2) (h4 : mm' 0 3 = mm 0 3) : RG cm' mm' := by
  obtain ⟨a, b, g1, g2, g3, g4, g5, g6, g7⟩ := h
  refine ⟨a, b, g1, g2, by rw [h1 2 (by omega) (by omega)]; exact g3, h4.trans g4, by rw [h1 2 (by omega) (by omega)]; exact g5, h3.trans g6, fun d hd1 hd2 => ?_⟩
  have := g7 d hd1 hd2
  have hlt := Nat.mod_lt (a + 24 - d) (show 0 < 24 by omega)
  generalize (a + 24 - d) % 24 = i at *
  unfold PG pg at this ⊢
  rw [h2, h1 (3 + i) (by omega) (by omega)]
  exact this
/-- scratch may change -/
theorem INV.kp {cm cm' : CM} {mm mm' : MM} (h : INV cm mm) (h1 : ∀ o, o < 28 → cm' o = cm o) (h2 : mm' 1 = mm 1) (h3 : mm' 2 = mm 2) (h4 : mm' 0 2 = mm 0 2) (h5 : mm' 0 3 = mm 0 3) : INV cm' mm' := by
  obtain ⟨n, a1, a2, a3, a4⟩ := h
  refine ⟨n, ?_, ?_, a3.kp (fun o _ h => h1 o (by omega)) h3 h4 h5, ?_⟩
  · rw [h1 1 (by omega), h2]; exact a1
  · rw [h2]; exact a2
  · rw [h1 0 (by omega), h1 1 (by omega), h1 27 (by omega), h2]; exact a4
theorem INV.km {cm : CM} {mm mm' : MM} (h : INV cm mm) (hk : KM mm mm') : INV cm mm' := h.kp (fun _ _ => rfl) hk.1 hk.2.1 hk.2.2.2.1 hk.2.2.2.2
/-- the present choice, and all stays -/
theorem INV.pr {cm : CM} {mm : MM} (h : INV cm mm) : ∃ cm' n, f_X6_presentChoice cm = some cm' ∧ INV cm' mm ∧ lay (cm' 1 1) (mm 1) ∧ VM (mm 1) n ∧ CC (cm' 1 1) (mm 1) n (cm' 27) ∧ cm' 1 = cm 1 ∧ ∀ o, 28 ≤ o → cm' o = cm o := by
  obtain ⟨n, a1, a2, a3, a4⟩ := h
  obtain ⟨cm', b1, b2, b3, b4⟩ := present a1 a2 a3 a4
  have e1 : cm' 1 = cm 1 := b2 1 (by decide) (by decide)
  refine ⟨cm', n, b1, ⟨n, by rw [e1]; exact a1, a2, a3.kp (fun o h1 h2 => b2 o (by omega) (by omega)) rfl rfl rfl, fun _ => by rw [e1]; exact b4⟩, by rw [e1]; exact a1, a2, by rw [e1]; exact b4, e1, fun o h => b2 o (by omega) (by omega)⟩
