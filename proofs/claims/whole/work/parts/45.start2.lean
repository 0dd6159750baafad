/-! from the made cells to the world; the law from its entry, given what its loop comes to -/
set_option maxRecDepth 100000 in
set_option maxHeartbeats 4000000 in
theorem LA_4 (Z : ZC) : ∃ f : Nat → Option Nat, (LA Z)[4]? = some (.inl (zO Z, 24, .inr (.inr (.inr (.inr f))))) ∧ ∀ i, i < 24 → f i = some (ad Z (3 + i) 0) := by
  refine ⟨_, rfl, fun i hi => ?_⟩
  rcases (show i = 0 ∨ i = 1 ∨ i = 2 ∨ i = 3 ∨ i = 4 ∨ i = 5 ∨ i = 6 ∨ i = 7 ∨ i = 8 ∨ i = 9 ∨ i = 10 ∨ i = 11 ∨ i = 12 ∨ i = 13 ∨ i = 14 ∨ i = 15 ∨ i = 16 ∨ i = 17 ∨ i = 18 ∨ i = 19 ∨ i = 20 ∨ i = 21 ∨ i = 22 ∨ i = 23 by omega) with rfl | rfl | rfl | rfl | rfl | rfl | rfl | rfl | rfl | rfl | rfl | rfl | rfl | rfl | rfl | rfl | rfl | rfl | rfl | rfl | rfl | rfl | rfl | rfl <;> rfl
theorem LA_len (Z : ZC) : (LA Z).length = 121 := rfl
theorem world_0 {Z : ZC} {H : Heap} (h : va_P (zD Z) vwCl (wls (zb Z) (LA Z)) H) : va_P (zD Z) vwCl (wl Z cm0 mm0 lm0) H := by
  rw [← wl_0]
  intro k q hq
  obtain ⟨f, h4, hf⟩ := LA_4 Z
  by_cases e : k = 4
  · subst e
    have h1 := h 4 _ (by rw [wls_at, h4]; rfl)
    rw [wls_at, LB, List.getElem?_set_self (by rw [LA_len]; decide)] at hq
    cases hq
    show H[_]? = some (vp_cell _ _)
    rw [← cell_q hf]
    exact h1
  · refine h k q ?_
    rw [wls_at, LB, List.getElem?_set_ne (Ne.symm e)] at hq
    rw [wls_at]
    exact hq
theorem JN_J {Z : ZC} {X : XC} {nL pc : Nat} {lv : List (Option Value)} {st : List Value} {cells slots : Nat} (hc : cells = X.2.2.2.2.2.2.2.2.2.2.1) (hs : slots = X.2.2.2.2.2.2.2.2.2.2.2) (h : J Z X nL cm0 mm0 lm0 pc lv st) : JN Z X nL [] (LA Z) cells slots pc lv st := by
  subst hc; subst hs
  intro H locs ls hP hS hl
  exact h H locs ls (world_0 hP) hS hl
set_option maxRecDepth 100000 in
set_option maxHeartbeats 4000000 in
theorem law_start {Z : ZC} {X : XC} {b L : Nat} {xs : Nat → Int32} (hX : CxN Z X cL_law 4 RL room_1) (HL : LX Z X b L xs) (hc : X.2.2.2.2.2.2.2.2.2.2.1 = 121) (hs : X.2.2.2.2.2.2.2.2.2.2.2 = 11544) (h : f_L_law cm0 mm0 lm0 L xs = some 1) : JN Z X 4 [] [] 0 0 0 [some (.ref b), none, none, none] [] := by
  have hz0 : X.2.2.2.1.heap.size = zb Z := HL.2.2.1.symm
  refine n_new (ci := 6) (ty := tyX6) (fs := [.null, .null, .null, .null, .null, .null, .null, .int 0]) hX dL_law_0 rfl us_6 tyX6_ok wc_L_7 wi_6 wn_6 df_6 (by rw [hz0]; rfl) (Nat.le_of_ble_eq_true rfl) (Nat.le_of_ble_eq_true rfl) ?_
  refine n_dup hX dL_law_3 rfl ?_
  refine n_callI (L0 := []) (L1 := [.inr (6, [.null, .null, .null, .null, .null, .null, .null, .int 0])]) (L' := L6 Z) (As := []) hX dL_law_4 (c_X6_init' [] []) mc_X6_init (Or.inl ml_L_9) rfl rfl (by rw [hz0]; rfl) ⟨Nat.le_of_ble_eq_true rfl, Nat.le_of_ble_eq_true rfl⟩ rfl rfl (Nat.le_of_ble_eq_true rfl) (Nat.le_of_ble_eq_true rfl) rfl (Nat.le_of_ble_eq_true rfl) ?_
  refine n_astore_n hX dL_law_7 rfl (Nat.le_of_ble_eq_true rfl) rfl ?_
  refine n_new (ci := 7) (ty := tyX7) (fs := [.null, .null, .int 0, .int 0, .null, .null, .null, .null, .null, .null, .null, .null, .null, .null, .int 0, .null, .null, .null, .null, .null, .null]) hX dL_law_8 rfl us_7 tyX7_ok wc_L_10 wi_7 wn_7 df_7 (by rw [hz0]; rfl) (Nat.le_of_ble_eq_true rfl) (Nat.le_of_ble_eq_true rfl) ?_
  refine n_dup hX dL_law_11 rfl ?_
  refine n_callI (L0 := L6 Z) (L1 := [.inr (7, [.null, .null, .int 0, .int 0, .null, .null, .null, .null, .null, .null, .null, .null, .null, .null, .int 0, .null, .null, .null, .null, .null, .null])]) (As := []) hX dL_law_12 (c_X7_init' [] (L6 Z)) mc_X7_init (Or.inl ml_L_12) rfl rfl (by rw [hz0]; rfl) ⟨Nat.le_of_ble_eq_true rfl, Nat.le_of_ble_eq_true rfl⟩ rfl rfl (Nat.le_of_ble_eq_true rfl) (Nat.le_of_ble_eq_true rfl) rfl (Nat.le_of_ble_eq_true rfl) ?_
  refine n_astore_n hX dL_law_15 rfl (Nat.le_of_ble_eq_true rfl) rfl ?_
  refine JN_eq (L' := LA Z) (c' := 121) (s' := 11544) rfl rfl rfl ?_
  refine JN_J hc.symm hs.symm ?_
  exact law_J hX.1 HL h
