/-! PURE PART: enter, answer, again; calls that ask the office alone -/
def dsC (c : Nat → Int32) (p : Nat) (s : Int32) : Nat → Int32 := upd (upd (upd (upd c (64 + p) s) (80 + p) (-9)) (96 + p) (-9)) (112 + p) (-9)
def fgt (m : Nat → Int32) (p : Nat) : Nat → Int32 := upd (upd (upd m (8 * p + 5) (-9)) (8 * p + 6) (-9)) (8 * p + 7) (-9)
theorem odismiss {cm : CM} {o p : Nat} {s : Int32} (hp : p < 16) : f_X3_dismiss cm o (nI p) s = some (u3 cm o 1 (dsC (cm o 1) p s)) := by
  unfold f_X3_dismiss dsC
  rw [os_64 hp, Option.bind_some, os_80 hp, Option.bind_some, os_96 hp, Option.bind_some, os_112 hp, Option.bind_some, u3_s, u3_u3, u3_s, u3_u3, u3_s, u3_u3]
theorem mforgets {mm : MM} {p : Nat} (hp : p < 16) : f_X7_forgets mm (nI p) = some (u2 mm 1 (fgt (mm 1) p)) := by
  unfold f_X7_forgets fgt
  rw [mb_5 hp, Option.bind_some, mb_6 hp, Option.bind_some, mb_7 hp, Option.bind_some, u2_s, u2_u2, u2_s, u2_u2]
theorem lay_up {c m : Nat → Int32} {p f : Nat} (h : lay c m) (hp : p < 16) (hf : f < 8) (v : Int32) : lay (upd c (16 * f + p) v) (upd m (8 * p + f) v) := by
  have := lay_upd (j := 16 * f + p) h (by omega) v
  rwa [mi_p hp hf] at this
theorem lay_ds {c m : Nat → Int32} {p : Nat} (h : lay c m) (hp : p < 16) (s : Int32) : lay (dsC c p s) (fgt (upd m (8 * p + 4) s) p) :=
  lay_up (f := 7) (lay_up (f := 6) (lay_up (f := 5) (lay_up (f := 4) h hp (by omega) s) hp (by omega) (-9)) hp (by omega) (-9)) hp (by omega) (-9)
theorem VP_fgt {m : Nat → Int32} {p : Nat} (h : VP m p) : VP (fgt m p) p := by
  unfold fgt
  refine VP_u (f := 7) (VP_u (f := 6) (VP_u (f := 5) h ?_ ?_ ?_ ?_ ?_ ?_ ?_) ?_ ?_ ?_ ?_ ?_ ?_ ?_) ?_ ?_ ?_ ?_ ?_ ?_ ?_ <;> first | exact fun _ => Or.inl rfl | (intro q; exact absurd q (by decide))
theorem VP_4 {m : Nat → Int32} {p : Nat} {s : Int32} (h : VP m p) (hs : isN s 4) : VP (upd m (8 * p + 4) s) p := by
  refine VP_u (f := 4) h ?_ ?_ ?_ ?_ ?_ ?_ ?_ <;> first | exact fun _ => hs | (intro q; exact absurd q (by decide))
theorem fgt_n {m : Nat → Int32} {p i : Nat} (h : ¬ (8 * p ≤ i ∧ i < 8 * p + 8)) : fgt m p i = m i := by
  unfold fgt
  rw [upd_n _ _ (by omega), upd_n _ _ (by omega), upd_n _ _ (by omega)]
theorem mchanges {mm mm1 : MM} {j : Nat} {x v : Int32} (h : f_X7_keep mm = some mm1) (hj : j < 159) (hx : x = nI j) : f_X7_changes mm x v = some (mm1 1 j, u2 mm1 1 (upd (mm1 1) j v)) := by
  unfold f_X7_changes
  rw [h, Option.bind_some, hx, rd_nI _ hj (by omega), Option.bind_some, wr_nI _ _ hj (by omega), Option.bind_some]
theorem x8 (p f : Nat) : (8 : Int32) * nI p + nI f = nI (8 * p + f) := by rw [show (8 : Int32) = nI 8 from rfl, pk_mul, nI_add]
theorem ans_1 {cm : CM} {mm : MM} {p v : Nat} {w : Int32} (h : INV cm mm) (hp : p < 16) (hv : v ≤ 2) (hw : mm 1 (8 * p + 4) = w) :
    EQ2 ((f_X6_beginAct cm).bind fun r46 => if nI v = 0 then (f_X3_dismiss r46 1 (nI p) 4).bind fun r59 => some (w, r59) else ((if nI v = 1 then some 2 else some 3) : Option (Int32)).bind fun k82_0 => (f_X3_set r46 1 64 (nI p) k82_0).bind fun r82 => some (w, r82))
      (((if nI v = 0 then some 4 else if nI v = 1 then some 2 else some 3) : Option (Int32)).bind fun k70_0 => (f_X7_changes mm ((8 * nI p) + 4) k70_0).bind fun r70 => if nI v = 0 then (f_X7_forgets r70.2 (nI p)).bind fun r80 => some (r70.1, r80) else some (r70.1, r70.2)) := by
  obtain ⟨n, l, V, R, -⟩ := h
  obtain ⟨cm1, mm1, b1, b2, b3, b4, b5, b6⟩ := keep_2 l V R
  rw [b1, Option.bind_some]
  by_cases h0 : nI v = 0
  · rw [if_pos h0, if_pos h0, Option.bind_some, mchanges b2 (x := 8 * nI p + 4) (j := 8 * p + 4) (by omega) (x8 p 4), Option.bind_some, if_pos h0, odismiss hp, Option.bind_some]
    dsimp only
    rw [mforgets hp, Option.bind_some]
    refine ⟨w, _, _, rfl, by rw [b5, hw], act_end (n := n) b3 b6 (fun o h1 _ => u3_o h1) ?_ ?_ ?_ ?_⟩
    · rw [u2_u2, u2_n _ _ (by decide)]
    · rw [u2_u2, u2_n _ _ (by decide)]
    · simp only [u3_s, u2_s, b4, b5]; exact lay_ds l hp 4
    · simp only [u2_s, b5]
      exact V.pp hp (fun i hi hne => by rw [fgt_n hne, upd_n _ _ (by omega)]) (fun hk => VP_fgt (VP_4 (V.2.2.1 p hk) ⟨4, by omega, rfl⟩))
  · have fin : ∀ k : Int32, isN k 4 → EQ2 ((f_X3_set cm1 1 64 (nI p) k).bind fun r82 => some (w, r82)) ((f_X7_changes mm ((8 * nI p) + 4) k).bind fun r70 => some (r70.1, r70.2)) := by
      intro k hk
      rw [os_64 hp, Option.bind_some, mchanges b2 (x := 8 * nI p + 4) (j := 8 * p + 4) (by omega) (x8 p 4), Option.bind_some]
      refine ⟨w, _, _, rfl, by dsimp only; rw [b5, hw], act_end (n := n) b3 b6 (fun o h1 _ => u3_o h1) (u2_n _ _ (by decide)) (u2_n _ _ (by decide)) ?_ ?_⟩
      · simp only [u3_s, u2_s, b4, b5]; exact lay_up (f := 4) l hp (by omega) k
      · simp only [u2_s, b5]
        exact V.pp hp (fun i hi hne => by rw [upd_n _ _ (by omega)]) (fun hq => VP_4 (V.2.2.1 p hq) hk)
    rw [if_neg h0, if_neg h0]
    simp only [if_neg h0]
    by_cases h1 : nI v = 1
    · rw [if_pos h1, Option.bind_some, Option.bind_some]
      exact fin 2 ⟨2, by omega, rfl⟩
    · rw [if_neg h1, Option.bind_some, Option.bind_some]
      exact fin 3 ⟨3, by omega, rfl⟩
theorem op_answer {cm : CM} {mm : MM} (h : INV cm mm) (a1 a2 : Int32) : EQ2 (f_X6_answer cm a1 a2) (f_X7_answer mm a1 a2) := by
  have h' := h
  obtain ⟨n, l, V, R, -⟩ := h
  have hn := V.2.1
  unfold f_X6_answer f_X7_answer
  rcases prsn l V a1 with ⟨p, hpn, rfl, q1, q2⟩ | ⟨-, q1, q2⟩
  · rw [q1, q2, Option.bind_some, Option.bind_some, i10, i10]
    rcases wtn a2 2 (b := 2) rfl (by omega) with ⟨v, hv, rfl, w1, w2⟩ | ⟨-, w1, w2⟩
    · rw [w1, w2, Option.bind_some, Option.bind_some, i10, i10, og_64 (by omega), mo_4 (by omega), Option.bind_some, Option.bind_some, ly_64 l (by omega)]
      by_cases e1 : mm 1 (8 * p + 4) = 1
      · rw [if_pos e1, if_pos e1]
        exact ans_1 h' (by omega) hv rfl
      · rw [if_neg e1, if_neg e1, Option.bind_some]
        by_cases e2 : mm 1 (8 * p + 4) = 2
        · rw [if_pos e2, if_pos e2]
          exact ans_1 h' (by omega) hv rfl
        · rw [if_neg e2, if_neg e2]
          exact EQ2.k h' _
    · rw [w1, w2, Option.bind_some, Option.bind_some, i00, i00]
      exact EQ2.k h' _
  · rw [q1, q2, Option.bind_some, Option.bind_some, i00, i00]
    exact EQ2.k h' _
theorem op_again {cm : CM} {mm : MM} (h : INV cm mm) (a1 : Int32) : EQ2 (f_X6_again cm a1) (f_X7_again mm a1) := by
  have h' := h
  obtain ⟨n, l, V, R, -⟩ := h
  have hn := V.2.1
  unfold f_X6_again f_X7_again
  rcases prsn l V a1 with ⟨p, hpn, rfl, q1, q2⟩ | ⟨-, q1, q2⟩
  · have hp : p < 16 := by omega
    rw [q1, q2, Option.bind_some, Option.bind_some, i10, i10, og_64 hp, mo_4 hp, Option.bind_some, Option.bind_some, ly_64 l hp]
    by_cases e1 : mm 1 (8 * p + 4) = 4
    · obtain ⟨cm1, mm1, b1, b2, b3, b4, b5, b6⟩ := keep_2 l V R
      rw [if_pos e1, if_pos e1, b1, Option.bind_some, odismiss hp, Option.bind_some, mchanges b2 (x := 8 * nI p + 4) (j := 8 * p + 4) (by omega) (x8 p 4), Option.bind_some]
      dsimp only
      rw [mforgets hp, Option.bind_some]
      refine ⟨1, _, _, rfl, rfl, act_end (n := n) b3 b6 (fun o h1 _ => u3_o h1) ?_ ?_ ?_ ?_⟩
      · rw [u2_u2, u2_n _ _ (by decide)]
      · rw [u2_u2, u2_n _ _ (by decide)]
      · simp only [u3_s, u2_s, b4, b5]; exact lay_ds l hp 0
      · simp only [u2_s, b5]
        exact V.pp hp (fun i hi hne => by rw [fgt_n hne, upd_n _ _ (by omega)]) (fun hk => VP_fgt (VP_4 (V.2.2.1 p hk) ⟨0, by omega, rfl⟩))
    · rw [if_neg e1, if_neg e1]
      exact EQ2.k h' _
  · rw [q1, q2, Option.bind_some, Option.bind_some, i00, i00]
    exact EQ2.k h' _
/-- one person more -/
theorem VM.more {m m' : Nat → Int32} {n : Nat} (h : VM m n) (hn : n < 16) (hm : ∀ i, i < 159 → ¬ (8 * n ≤ i ∧ i < 8 * n + 8) → i ≠ 157 → m' i = m i) (h1 : m' 157 = nI (n + 1)) (hv : VP m' n) : VM m' (n + 1) := by
  have h2 : VM (upd m' 157 (nI n)) n := h.pp (p := n) hn (fun i hi hne => by
    by_cases e : i = 157
    · subst e; rw [upd_s]; exact h.1.symm
    · rw [upd_n _ _ e]; exact hm i hi hne e) (fun hk => by omega)
  obtain ⟨v1, v2, v3, v4, v5, v6⟩ := h2
  refine ⟨h1, by omega, fun p hp => ?_, okSM_cg v4 (fun i _ _ => (upd_n _ _ (by omega)).symm), okH_cg v5 (fun i _ _ => (upd_n _ _ (by omega)).symm), okOr_cg v6 (fun i _ _ => (upd_n _ _ (by omega)).symm)⟩
  by_cases e : p = n
  · subst e; exact hv
  · have := v3 p (by omega)
    unfold VP at this ⊢
    rw [upd_n _ _ (by omega), upd_n _ _ (by omega), upd_n _ _ (by omega), upd_n _ _ (by omega), upd_n _ _ (by omega), upd_n _ _ (by omega), upd_n _ _ (by omega)] at this
    exact this
theorem upd_cm {f : Nat → Int32} {j k : Nat} {x y : Int32} (h : j ≠ k) : upd (upd f j x) k y = upd (upd f k y) j x := by
  funext i
  by_cases e : i = j
  · subst e; rw [upd_n _ _ h, upd_s, upd_s]
  · by_cases e2 : i = k
    · subst e2; rw [upd_s, upd_n _ _ e, upd_s]
    · rw [upd_n _ _ e2, upd_n _ _ e, upd_n _ _ e, upd_n _ _ e2]
theorem op_enter {cm : CM} {mm : MM} (h : INV cm mm) (a1 a2 a3 a4 : Int32) : EQ2 (f_X6_enter cm a1 a2 a3 a4) (f_X7_enter mm a1 a2 a3 a4) := by
  have h' := h
  obtain ⟨n, l, V, R, -⟩ := h
  have hn := V.2.1
  unfold f_X6_enter f_X7_enter
  rcases wtn a1 99 (b := 99) rfl (by omega) with ⟨v0, hv0, rfl, q1, q2⟩ | ⟨-, q1, q2⟩
  rotate_left
  · rw [q1, q2, Option.bind_some, Option.bind_some, i00, i00]
    exact EQ2.k h' _
  rw [q1, q2, Option.bind_some, Option.bind_some, i10, i10]
  rcases wtn a2 999 (b := 999) rfl (by omega) with ⟨v1, hv1, rfl, q1, q2⟩ | ⟨-, q1, q2⟩
  rotate_left
  · rw [q1, q2, Option.bind_some, Option.bind_some, i00, i00]
    exact EQ2.k h' _
  rw [q1, q2, Option.bind_some, Option.bind_some, i10, i10]
  rcases kdn a3 with ⟨v2, hv2, rfl, q1, q2⟩ | ⟨-, q1, q2⟩
  rotate_left
  · rw [q1, q2, Option.bind_some, Option.bind_some, i00, i00]
    exact EQ2.k h' _
  rw [q1, q2, Option.bind_some, Option.bind_some, i10, i10]
  unfold f_X6_isGroupSet
  rcases wtn a4 15 (b := 15) rfl (by omega) with ⟨v3, hv3, rfl, q1, q2⟩ | ⟨-, q1, q2⟩
  rotate_left
  · rw [q1, q2, Option.bind_some, Option.bind_some, Option.bind_some, i00, i00]
    exact EQ2.k h' _
  rw [q1, q2, Option.bind_some, Option.bind_some, Option.bind_some, i10, i10, opeople, ly_158 l, V.1, Option.bind_some, rd_157, V.1, Option.bind_some]
  by_cases hf : n < 16
  · obtain ⟨cm1, mm1, b1, b2, b3, b4, b5, b6⟩ := keep_2 l V R
    rw [if_pos (show nI n < 16 from nI_lt (b := 16) hf (by omega)), if_neg (show ¬ nI n = 16 from fun q => by have := (nI_eq (b := 16) (by omega) (by omega)).mp q; omega), b1, Option.bind_some, os_0 hf, Option.bind_some, os_16 hf, Option.bind_some, os_32 hf, Option.bind_some, os_48 hf, Option.bind_some, odismiss hf, Option.bind_some, os_158, Option.bind_some, b2, Option.bind_some, rd_157, b5, V.1, Option.bind_some, show (157 : Int32) = nI 157 from rfl, wr_nI _ _ (by omega) (by omega), Option.bind_some, mb_0 hf, Option.bind_some, mb_1 hf, Option.bind_some, mb_2 hf, Option.bind_some, mb_3 hf, Option.bind_some, mb_4 hf, Option.bind_some, mforgets hf, Option.bind_some]
    simp only [u3_s, u3_u3, u2_s, u2_u2, nI_1, b4, b5]
    refine ⟨nI n, _, _, rfl, rfl, act_end (n := n + 1) b3 b6 (fun o h1 _ => u3_o h1) (u2_n _ _ (by decide)) (u2_n _ _ (by decide)) ?_ ?_⟩
    · rw [u3_s, u2_s]
      have := lay_upd (j := 158) (lay_ds (lay_up (f := 3) (lay_up (f := 2) (lay_up (f := 1) (lay_up (f := 0) l hf (by omega) (nI v0)) hf (by omega) (nI v1)) hf (by omega) (nI v2)) hf (by omega) (nI v3)) hf 0) (by omega) (nI (n + 1))
      rw [show mi 158 = 157 from rfl] at this
      unfold fgt at this ⊢
      rw [upd_cm (j := 8 * n + 7) (k := 157) (by omega), upd_cm (j := 8 * n + 6) (k := 157) (by omega), upd_cm (j := 8 * n + 5) (k := 157) (by omega), upd_cm (j := 8 * n + 4) (k := 157) (by omega), upd_cm (j := 8 * n + 3) (k := 157) (by omega), upd_cm (j := 8 * n + 2) (k := 157) (by omega), upd_cm (j := 8 * n + 1) (k := 157) (by omega), upd_cm (j := 8 * n + 0) (k := 157) (by omega)] at this
      rw [Nat.mul_zero, Nat.zero_add, Nat.add_zero] at this
      exact this
    · rw [u2_s]
      have e : ∀ i, i ≠ 157 → ¬ (8 * n ≤ i ∧ i < 8 * n + 8) → fgt (upd (upd (upd (upd (upd (upd (mm 1) 157 (nI (n + 1))) (8 * n) (nI v0)) (8 * n + 1) (nI v1)) (8 * n + 2) (nI v2)) (8 * n + 3) (nI v3)) (8 * n + 4) 0) n i = mm 1 i := by
        intro i h1 h2
        rw [fgt_n h2, upd_n _ _ (by omega), upd_n _ _ (by omega), upd_n _ _ (by omega), upd_n _ _ (by omega), upd_n _ _ (by omega), upd_n _ _ (by omega)]
      refine V.more hf (fun i hi h1 h2 => e i h2 h1) ?_ ?_
      · rw [fgt_n (by omega), upd_n _ _ (by omega), upd_n _ _ (by omega), upd_n _ _ (by omega), upd_n _ _ (by omega), upd_n _ _ (by omega), upd_s]
      · unfold fgt
        refine ⟨⟨v0, hv0, ?_⟩, ⟨v1, hv1, ?_⟩, ⟨v2, by omega, ?_⟩, ⟨v3, hv3, ?_⟩, ⟨0, by omega, ?_⟩, Or.inl ?_, Or.inl ?_⟩
        · rw [upd_n _ _ (by omega), upd_n _ _ (by omega), upd_n _ _ (by omega), upd_n _ _ (by omega), upd_n _ _ (by omega), upd_n _ _ (by omega), upd_n _ _ (by omega), upd_s]
        · rw [upd_n _ _ (by omega), upd_n _ _ (by omega), upd_n _ _ (by omega), upd_n _ _ (by omega), upd_n _ _ (by omega), upd_n _ _ (by omega), upd_s]
        · rw [upd_n _ _ (by omega), upd_n _ _ (by omega), upd_n _ _ (by omega), upd_n _ _ (by omega), upd_n _ _ (by omega), upd_s]
        · rw [upd_n _ _ (by omega), upd_n _ _ (by omega), upd_n _ _ (by omega), upd_n _ _ (by omega), upd_s]
        · rw [upd_n _ _ (by omega), upd_n _ _ (by omega), upd_n _ _ (by omega), upd_s]; rfl
        · rw [upd_n _ _ (by omega), upd_n _ _ (by omega), upd_s]
        · rw [upd_n _ _ (by omega), upd_s]
  · have : n = 16 := by omega
    subst this
    rw [if_neg (by decide), if_pos (by decide)]
    exact EQ2.k h' _
