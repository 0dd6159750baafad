/-! PURE PART: tallies and cuts -/
/-- a set of groups x has one beside the set s -/
def outB (x : Int32) (s : Nat) : Bool := decide (¬ (x &&& (nI s ^^^ (-1))) = 0)
theorem outB_t {x : Int32} {s : Nat} (h : ¬ (x &&& (nI s ^^^ (-1))) = 0) : outB x s = true := decide_eq_true h
theorem outB_f {x : Int32} {s : Nat} (h : (x &&& (nI s ^^^ (-1))) = 0) : ¬ outB x s = true := by unfold outB; rw [decide_eq_true_eq]; exact fun q => q h
theorem oadd {cm : CM} {C : Nat} {ch : MM} (x y : Int32) : ∃ ch', f_X5_add (pC cm C ch) C x y = some (pC cm C ch') ∧ keeps [18] ch ch' ∧ ∀ s, s < 16 → ch' 18 s = ch 18 s + if outB x s = true then y else 0 := by
  unfold f_X5_add
  have key := itr_for (step := fun s : Int32 × CM => f_X5_add_B2 C x y s.1 s.2)
    (fun k s => s.1 = nI k ∧ ∃ ch', s.2 = pC cm C ch' ∧ keeps [18] ch ch' ∧ ∀ j, ch' 18 j = if j < k then ch 18 j + (if outB x j = true then y else 0) else ch 18 j) 16 (0, pC cm C ch) (by omega) ⟨rfl, ch, rfl, keeps.rf _ _, fun j => by rw [if_neg (by omega)]⟩ ?_ ?_
  · obtain ⟨⟨a, m'⟩, hI, -, ch', h8, hk, k18⟩ := key
    dsimp only at h8
    subst h8
    rw [hI, Option.bind_some]
    exact ⟨ch', rfl, hk, fun s hs => by rw [k18 s, if_pos hs]⟩
  · rintro k ⟨a, m'⟩ hk ⟨h9, ch', h8, hkp, k18⟩
    dsimp only at h8 h9
    subst h8; subst h9
    dsimp only
    have e0 : ch' 18 k = ch 18 k := by rw [k18 k, if_neg (by omega)]
    by_cases h : (x &&& (nI k ^^^ (-1))) = 0
    · refine ⟨(nI (k + 1), pC cm C ch'), ?_, rfl, ch', rfl, hkp, fun j => ?_⟩
      · unfold f_X5_add_B2
        rw [show (16 : Int32) = nI 16 from rfl, ifle (by omega) (by omega), if_neg (by omega), if_pos h, nI_1]
      · rw [k18 j]
        by_cases e : j = k
        · subst e
          rw [if_neg (show ¬ j < j by omega), if_pos (show j < j + 1 by omega), if_neg (outB_f h), Int32.add_zero]
        · by_cases e2 : j < k
          · rw [if_pos e2, if_pos (show j < k + 1 by omega)]
          · rw [if_neg e2, if_neg (show ¬ j < k + 1 by omega)]
    · refine ⟨(nI (k + 1), pC cm C (u2 ch' 18 (upd (ch' 18) k (ch 18 k + y)))), ?_, rfl, _, rfl, hkp.up (by decide), fun j => ?_⟩
      · unfold f_X5_add_B2
        rw [show (16 : Int32) = nI 16 from rfl, ifle (by omega) (by omega), if_neg (by omega), if_neg h, pC_s, rd_nI _ hk (by omega), Option.bind_some, e0, wr_nI _ _ hk (by omega), Option.bind_some, u3_pC', nI_1]
      · rw [u2_s]
        by_cases e : j = k
        · subst e
          rw [upd_s, if_pos (show j < j + 1 by omega), if_pos (outB_t h)]
        · rw [upd_n _ _ e, k18 j]
          by_cases e2 : j < k
          · rw [if_pos e2, if_pos (show j < k + 1 by omega)]
          · rw [if_neg e2, if_neg (show ¬ j < k + 1 by omega)]
  · rintro ⟨a, m'⟩ ⟨h9, ch', h8, -⟩
    dsimp only at h8 h9
    subst h8; subst h9
    dsimp only
    unfold f_X5_add_B2
    rw [if_pos (by decide)]
theorem madd {mm : MM} {p : Nat} (hp : p < 16) (y : Int32) : ∃ mm', f_X7_addOther mm (nI p) y = some mm' ∧ keeps [14] mm mm' ∧ ∀ s, s < 16 → mm' 14 s = mm 14 s + if outB (mm 1 (8 * p + 3)) s = true then y else 0 := by
  unfold f_X7_addOther
  have key := itr_for (step := fun s : Int32 × MM => f_X7_addOther_B2 (nI p) y s.1 s.2)
    (fun k s => s.1 = nI k ∧ keeps [14] mm s.2 ∧ ∀ j, s.2 14 j = if j < k then mm 14 j + (if outB (mm 1 (8 * p + 3)) j = true then y else 0) else mm 14 j) 16 (0, mm) (by omega) ⟨rfl, keeps.rf _ _, fun j => by rw [if_neg (by omega)]⟩ ?_ ?_
  · obtain ⟨⟨a, m'⟩, hI, -, hk, k18⟩ := key
    rw [hI, Option.bind_some]
    dsimp only at k18 hk
    exact ⟨m', rfl, hk, fun s hs => by rw [k18 s, if_pos hs]⟩
  · rintro k ⟨a, m'⟩ hk ⟨h9, hkp, k18⟩
    dsimp only at h9 hkp k18
    subst h9
    dsimp only
    have e0 : m' 14 k = mm 14 k := by rw [k18 k, if_neg (by omega)]
    have fin : ∀ w : Int32, w = (if outB (mm 1 (8 * p + 3)) k = true then y else 0) → ∀ j, u2 m' 14 (upd (m' 14) k (mm 14 k + w)) 14 j = if j < k + 1 then mm 14 j + (if outB (mm 1 (8 * p + 3)) j = true then y else 0) else mm 14 j := by
      intro w hw j
      rw [u2_s]
      by_cases e : j = k
      · subst e
        rw [upd_s, if_pos (show j < j + 1 by omega), hw]
      · rw [upd_n _ _ e, k18 j]
        by_cases e2 : j < k
        · rw [if_pos e2, if_pos (show j < k + 1 by omega)]
        · rw [if_neg e2, if_neg (show ¬ j < k + 1 by omega)]
    by_cases h : (mm 1 (8 * p + 3) &&& (nI k ^^^ (-1))) = 0
    · refine ⟨(nI (k + 1), u2 m' 14 (upd (m' 14) k (mm 14 k + 0))), ?_, rfl, hkp.up (by decide), fin 0 (by rw [if_neg (outB_f h)])⟩
      unfold f_X7_addOther_B2
      rw [show (16 : Int32) = nI 16 from rfl, ifle (by omega) (by omega), if_neg (by omega), rd_nI _ hk (by omega), Option.bind_some, mo_3 hp, Option.bind_some, hkp 1 (by decide), if_pos h, e0, wr_nI _ _ hk (by omega), Option.bind_some, nI_1]
    · refine ⟨(nI (k + 1), u2 m' 14 (upd (m' 14) k (mm 14 k + y))), ?_, rfl, hkp.up (by decide), fin y (by rw [if_pos (outB_t h)])⟩
      unfold f_X7_addOther_B2
      rw [show (16 : Int32) = nI 16 from rfl, ifle (by omega) (by omega), if_neg (by omega), rd_nI _ hk (by omega), Option.bind_some, mo_3 hp, Option.bind_some, hkp 1 (by decide), if_neg h, e0, wr_nI _ _ hk (by omega), Option.bind_some, nI_1]
  · rintro ⟨a, m'⟩ ⟨h9, -⟩
    dsimp only at h9
    subst h9
    dsimp only
    unfold f_X7_addOther_B2
    rw [if_pos (by decide)]
theorem ofill {cm : CM} {C : Nat} {ch : MM} : f_X5_fill (pC cm C ch) C = some (mnf (ch 18) 16) := by
  have key := itr_seq (step := fun s : Int32 × Int32 => f_X5_fill_B5 (pC cm C ch) C s.1 s.2) (o := (mnf (ch 18) 16, nI 16)) 16 2000 (fun k => (mnf (ch 18) k, nI k)) (by omega) ?_ ?_
  · unfold f_X5_fill
    rw [show ((16 : Int32), (0 : Int32)) = (mnf (ch 18) 0, nI 0) from rfl, key, Option.bind_some]
  · intro k hk
    dsimp only
    unfold f_X5_fill_B5
    rw [show (16 : Int32) = nI 16 from rfl, ifle (by omega) (by omega), if_neg (by omega), pC_s, rd_nI _ hk (by omega), Option.bind_some, nI_1]
    rfl
  · dsimp only
    unfold f_X5_fill_B5
    rw [if_pos (by decide)]
theorem mcut {mm : MM} {x : Int32} {F : Nat → Int32} (h : ∀ s, s < 16 → ((if x = (-9) then some 0 else (rd 272 (mm 15) ((16 * x) + nI s)).bind fun x44 => some x44) : Option Int32) = some (F s)) : f_X7_leastCut mm x = some (mnf (fun s => mm 13 s + mm 14 s + F s) 16) := by
  have key := itr_seq (step := fun s : Int32 × Int32 => f_X7_leastCut_B5 mm x s.1 s.2) (o := (mnf (fun s => mm 13 s + mm 14 s + F s) 16, nI 16)) 16 2000 (fun k => (mnf (fun s => mm 13 s + mm 14 s + F s) k, nI k)) (by omega) ?_ ?_
  · unfold f_X7_leastCut
    rw [show ((16 : Int32), (0 : Int32)) = (mnf (fun s => mm 13 s + mm 14 s + F s) 0, nI 0) from rfl, key, Option.bind_some]
  · intro k hk
    dsimp only
    unfold f_X7_leastCut_B5
    rw [show (16 : Int32) = nI 16 from rfl, ifle (by omega) (by omega), if_neg (by omega), rd_nI _ hk (by omega), Option.bind_some, rd_nI _ hk (by omega), Option.bind_some]
    have hk' := h k hk
    rw [show (16 : Int32) = nI 16 from rfl] at hk'
    rw [hk', Option.bind_some, nI_1]
    show _ = some (Sum.inr (if _ then _ else _, nI (k + 1)))
    by_cases e : mm 13 k + mm 14 k + F k < mnf (fun s => mm 13 s + mm 14 s + F s) k
    · rw [if_pos e, if_neg (by rw [Int32.not_le]; exact e)]
    · rw [if_neg e, if_pos (by rw [← Int32.not_lt]; exact e)]
  · dsimp only
    unfold f_X7_leastCut_B5
    rw [if_pos (by decide)]
theorem mcut9 {mm : MM} : f_X7_leastCut mm (-9) = some (mnf (fun s => mm 13 s + mm 14 s) 16) := by
  rw [mcut (F := fun _ => 0) (fun s _ => by rw [if_pos rfl])]
  congr 2
  funext s
  rw [Int32.add_zero]
theorem mcutI {mm : MM} {i : Nat} (hi : i ≤ 16) : f_X7_leastCut mm (nI i) = some (mnf (fun s => mm 13 s + mm 14 s + mm 15 (16 * i + s)) 16) := by
  refine mcut (fun s hs => ?_)
  rw [if_neg (m9_ne (by omega)), show (16 : Int32) = nI 16 from rfl, pk_mul, nI_add, rd_nI _ (by omega) (by omega), Option.bind_some]
