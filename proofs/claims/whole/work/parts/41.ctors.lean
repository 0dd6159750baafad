/-! CONTRACTS OF THE CONSTRUCTORS -/
theorem df_0 : ∀ j, j < 12 → defaultValue (tyX0 j) = vp_V [.null, .null, .null, .null, .null, .null, .null, .null, .null, .int 0, .int 0, .int 0] j := fun j hj => by rcases (show j = 0 ∨ j = 1 ∨ j = 2 ∨ j = 3 ∨ j = 4 ∨ j = 5 ∨ j = 6 ∨ j = 7 ∨ j = 8 ∨ j = 9 ∨ j = 10 ∨ j = 11 by omega) with rfl | rfl | rfl | rfl | rfl | rfl | rfl | rfl | rfl | rfl | rfl | rfl <;> rfl
theorem wi_0 : Cond.instantiable RX0 12 ∈ Gt := gt_at 55 (by decide +kernel) (by decide +kernel)
theorem wn_0 : Cond.initialized RX0 ∈ Gt := gt_at 4 (by decide +kernel) (by decide +kernel)
theorem df_1 : ∀ j, j < 1 → defaultValue (tyX1 j) = vp_V [.null] j := fun j hj => by rcases (show j = 0 by omega) with rfl <;> rfl
theorem wi_1 : Cond.instantiable RX1 1 ∈ Gt := gt_at 126 (by decide +kernel) (by decide +kernel)
theorem wn_1 : Cond.initialized RX1 ∈ Gt := gt_at 8 (by decide +kernel) (by decide +kernel)
theorem df_2 : ∀ j, j < 3 → defaultValue (tyX2 j) = vp_V [.null, .int 0, .int 0] j := fun j hj => by rcases (show j = 0 ∨ j = 1 ∨ j = 2 by omega) with rfl | rfl | rfl <;> rfl
theorem wi_2 : Cond.instantiable RX2 3 ∈ Gt := gt_at 36 (by decide +kernel) (by decide +kernel)
theorem wn_2 : Cond.initialized RX2 ∈ Gt := gt_at 3 (by decide +kernel) (by decide +kernel)
theorem df_3 : ∀ j, j < 1 → defaultValue (tyX3 j) = vp_V [.null] j := fun j hj => by rcases (show j = 0 by omega) with rfl <;> rfl
theorem wi_3 : Cond.instantiable RX3 1 ∈ Gt := gt_at 21 (by decide +kernel) (by decide +kernel)
theorem wn_3 : Cond.initialized RX3 ∈ Gt := gt_at 2 (by decide +kernel) (by decide +kernel)
theorem df_4 : ∀ j, j < 1 → defaultValue (tyX4 j) = vp_V [.null] j := fun j hj => by rcases (show j = 0 by omega) with rfl <;> rfl
theorem wi_4 : Cond.instantiable RX4 1 ∈ Gt := gt_at 61 (by decide +kernel) (by decide +kernel)
theorem wn_4 : Cond.initialized RX4 ∈ Gt := gt_at 5 (by decide +kernel) (by decide +kernel)
theorem df_5 : ∀ j, j < 2 → defaultValue (tyX5 j) = vp_V [.null, .null] j := fun j hj => by rcases (show j = 0 ∨ j = 1 by omega) with rfl | rfl <;> rfl
theorem wi_5 : Cond.instantiable RX5 2 ∈ Gt := gt_at 74 (by decide +kernel) (by decide +kernel)
theorem wn_5 : Cond.initialized RX5 ∈ Gt := gt_at 7 (by decide +kernel) (by decide +kernel)
theorem df_6 : ∀ j, j < 8 → defaultValue (tyX6 j) = vp_V [.null, .null, .null, .null, .null, .null, .null, .int 0] j := fun j hj => by rcases (show j = 0 ∨ j = 1 ∨ j = 2 ∨ j = 3 ∨ j = 4 ∨ j = 5 ∨ j = 6 ∨ j = 7 by omega) with rfl | rfl | rfl | rfl | rfl | rfl | rfl | rfl <;> rfl
theorem wi_6 : Cond.instantiable RX6 8 ∈ Gt := gt_at 13 (by decide +kernel) (by decide +kernel)
theorem wn_6 : Cond.initialized RX6 ∈ Gt := gt_at 1 (by decide +kernel) (by decide +kernel)
theorem df_7 : ∀ j, j < 21 → defaultValue (tyX7 j) = vp_V [.null, .null, .int 0, .int 0, .null, .null, .null, .null, .null, .null, .null, .null, .null, .null, .int 0, .null, .null, .null, .null, .null, .null] j := fun j hj => by rcases (show j = 0 ∨ j = 1 ∨ j = 2 ∨ j = 3 ∨ j = 4 ∨ j = 5 ∨ j = 6 ∨ j = 7 ∨ j = 8 ∨ j = 9 ∨ j = 10 ∨ j = 11 ∨ j = 12 ∨ j = 13 ∨ j = 14 ∨ j = 15 ∨ j = 16 ∨ j = 17 ∨ j = 18 ∨ j = 19 ∨ j = 20 by omega) with rfl | rfl | rfl | rfl | rfl | rfl | rfl | rfl | rfl | rfl | rfl | rfl | rfl | rfl | rfl | rfl | rfl | rfl | rfl | rfl | rfl <;> rfl
theorem wi_7 : Cond.instantiable RX7 21 ∈ Gt := gt_at 666 (by decide +kernel) (by decide +kernel)
theorem wn_7 : Cond.initialized RX7 ∈ Gt := gt_at 9 (by decide +kernel) (by decide +kernel)
theorem wa_int : Cond.arrayClass .int ∈ Gt := gt_at 34 (by decide +kernel) (by decide +kernel)
theorem wa_long : Cond.arrayClass .long ∈ Gt := gt_at 736 (by decide +kernel) (by decide +kernel)
theorem wa_boolean : Cond.arrayClass .boolean ∈ Gt := gt_at 735 (by decide +kernel) (by decide +kernel)
theorem wc_L_7 : Cond.classLink RL 7 RX6 ∈ Gt := gt_at 12 (by decide +kernel) (by decide +kernel)
theorem wc_6_9 : Cond.classLink RX6 9 RX3 ∈ Gt := gt_at 20 (by decide +kernel) (by decide +kernel)
theorem wc_6_16 : Cond.classLink RX6 16 RX2 ∈ Gt := gt_at 35 (by decide +kernel) (by decide +kernel)
theorem wc_2_9 : Cond.classLink RX2 9 RX3 ∈ Gt := gt_at 41 (by decide +kernel) (by decide +kernel)
theorem wc_6_23 : Cond.classLink RX6 23 RX0 ∈ Gt := gt_at 54 (by decide +kernel) (by decide +kernel)
theorem wc_0_9 : Cond.classLink RX0 9 RX4 ∈ Gt := gt_at 60 (by decide +kernel) (by decide +kernel)
theorem wc_0_41 : Cond.classLink RX0 41 RX5 ∈ Gt := gt_at 73 (by decide +kernel) (by decide +kernel)
theorem wc_5_15 : Cond.classLink RX5 15 RX4 ∈ Gt := gt_at 79 (by decide +kernel) (by decide +kernel)
theorem wc_6_36 : Cond.classLink RX6 36 RX1 ∈ Gt := gt_at 125 (by decide +kernel) (by decide +kernel)
theorem wc_1_11 : Cond.classLink RX1 11 RX4 ∈ Gt := gt_at 131 (by decide +kernel) (by decide +kernel)
theorem wc_6_43 : Cond.classLink RX6 43 RX4 ∈ Gt := gt_at 137 (by decide +kernel) (by decide +kernel)
theorem wc_L_10 : Cond.classLink RL 10 RX7 ∈ Gt := gt_at 665 (by decide +kernel) (by decide +kernel)
theorem oi_6_3 : Cond.methodLink RX6 3 Lib.objectInit ∈ Gt := gt_at 17 (by decide +kernel) (by decide +kernel)
theorem oi_0_3 : Cond.methodLink RX0 3 Lib.objectInit ∈ Gt := gt_at 59 (by decide +kernel) (by decide +kernel)
theorem oi_1_5 : Cond.methodLink RX1 5 Lib.objectInit ∈ Gt := gt_at 130 (by decide +kernel) (by decide +kernel)
theorem oi_2_3 : Cond.methodLink RX2 3 Lib.objectInit ∈ Gt := gt_at 40 (by decide +kernel) (by decide +kernel)
theorem oi_3_3 : Cond.methodLink RX3 3 Lib.objectInit ∈ Gt := gt_at 25 (by decide +kernel) (by decide +kernel)
theorem oi_4_1 : Cond.methodLink RX4 1 Lib.objectInit ∈ Gt := gt_at 65 (by decide +kernel) (by decide +kernel)
theorem oi_5_3 : Cond.methodLink RX5 3 Lib.objectInit ∈ Gt := gt_at 78 (by decide +kernel) (by decide +kernel)
theorem oi_7_1 : Cond.methodLink RX7 1 Lib.objectInit ∈ Gt := gt_at 670 (by decide +kernel) (by decide +kernel)
set_option maxRecDepth 100000 in
theorem mc_X0_init : MC yX0_init cX0_init 1 0 := ⟨gt_at 58 rfl (by decide +kernel), gt_at 57 (by decide +kernel) (by decide +kernel), gt_at 4 (by decide +kernel) (by decide +kernel), rfl, by decide, by decide, by decide +kernel⟩
set_option maxRecDepth 100000 in
theorem mc_X1_init : MC yX1_init cX1_init 1 0 := ⟨gt_at 129 rfl (by decide +kernel), gt_at 128 (by decide +kernel) (by decide +kernel), gt_at 8 (by decide +kernel) (by decide +kernel), rfl, by decide, by decide, by decide +kernel⟩
set_option maxRecDepth 100000 in
theorem mc_X2_init : MC yX2_init cX2_init 2 0 := ⟨gt_at 39 rfl (by decide +kernel), gt_at 38 (by decide +kernel) (by decide +kernel), gt_at 3 (by decide +kernel) (by decide +kernel), rfl, by decide, by decide, by decide +kernel⟩
set_option maxRecDepth 100000 in
theorem mc_X3_init : MC yX3_init cX3_init 2 0 := ⟨gt_at 24 rfl (by decide +kernel), gt_at 23 (by decide +kernel) (by decide +kernel), gt_at 2 (by decide +kernel) (by decide +kernel), rfl, by decide, by decide, by decide +kernel⟩
set_option maxRecDepth 100000 in
theorem mc_X4_init : MC yX4_init cX4_init 2 1 := ⟨gt_at 64 rfl (by decide +kernel), gt_at 63 (by decide +kernel) (by decide +kernel), gt_at 5 (by decide +kernel) (by decide +kernel), rfl, by decide, by decide, by decide +kernel⟩
set_option maxRecDepth 100000 in
theorem mc_X5_init : MC yX5_init cX5_init 1 0 := ⟨gt_at 77 rfl (by decide +kernel), gt_at 76 (by decide +kernel) (by decide +kernel), gt_at 7 (by decide +kernel) (by decide +kernel), rfl, by decide, by decide, by decide +kernel⟩
set_option maxRecDepth 100000 in
theorem mc_X6_init : MC yX6_init cX6_init 1 0 := ⟨gt_at 16 rfl (by decide +kernel), gt_at 15 (by decide +kernel) (by decide +kernel), gt_at 1 (by decide +kernel) (by decide +kernel), rfl, by decide, by decide, by decide +kernel⟩
set_option maxRecDepth 100000 in
theorem mc_X7_init : MC yX7_init cX7_init 2 0 := ⟨gt_at 669 rfl (by decide +kernel), gt_at 668 (by decide +kernel) (by decide +kernel), gt_at 9 (by decide +kernel) (by decide +kernel), rfl, by decide, by decide, by decide +kernel⟩
theorem an_app (Z : ZC) (pre L : List va_E) (j : Nat) : an Z (pre ++ L) j = an Z pre (L.length + j) := by unfold an; rw [List.length_append]; omega
theorem max0 {n : Nat} (h : n ≤ 4096) : (if (0 : Int32) < nI n then nI n else 0) = nI n := by
  split
  · rfl
  · rename_i h0
    rcases Nat.eq_zero_or_pos n with e | e
    · subst e; rfl
    · exact absurd (by rw [← nI_0]; exact nI_lt e (by omega)) h0
abbrev rm_X4_init (n : Nat) : Room := { frames := 1, cells := 1, slots := n, locals := 21 }
set_option maxRecDepth 20000 in
theorem c_X4_init {Z : ZC} {pre : List va_E} {n : Nat} {x : Int32} (hx : x = nI n) (hn : n ≤ 4096) : CtN Z yX4_init cX4_init 2 (rm_X4_init n) [.ref (an Z pre 0), .int x] (pre ++ [.inr (4, [.null])]) (pre ++ [.inr (4, [.ref (an Z pre 1)]), .inl (zI Z, n, .inl (fun _ => 0))]) 1 n := by
  subst hx
  refine CtN_of (own := RX4) [some (.ref (an Z pre 0)), some (.int (nI n))] ⟨by decide, rfl⟩ rfl (Nat.le_of_ble_eq_true rfl) rfl (fun X hX hin hz0 hF => ?_)
  refine n_aload_n hX dX4_init_0 rfl rfl ?_
  refine n_oinit hX dX4_init_1 oi_4_1 rfl rfl (Nat.le_of_ble_eq_true rfl) ?_
  refine n_aload_n hX dX4_init_4 rfl rfl ?_
  refine n_iconst hX dX4_init_5 ic_0 ?_
  refine n_iload_n hX dX4_init_6 rfl rfl ?_
  refine n_max hX dX4_init_7 mm_4_7 rfl rfl (Nat.le_of_ble_eq_true rfl) (Nat.zero_le _) (Nat.zero_le _) ?_
  rw [max0 hn]
  refine n_newI (N := n) hX dX4_init_10 wa_int (nI_pos (by omega)) (nI_clamp (by omega)) hn (by rw [hz0]; rfl) (Nat.le_of_ble_eq_true rfl) (by rw [Nat.zero_add]; exact Nat.le_refl _) ?_
  refine n_putF (j := 0) hX hin dX4_init_12 fi_4_13 rfl tyX4_ok nmX4 rfl rfl rfl rfl rfl (Nat.le_of_ble_eq_true rfl) ?_
  exact n_vret hX hF dX4_init_15 rfl rfl (Nat.zero_add _)
theorem c_X4_init' {Z : ZC} (pre L0 : List va_E) {n : Nat} {x : Int32} (hx : x = nI n) (hn : n ≤ 4096) : CtN Z yX4_init cX4_init 2 (rm_X4_init n) [.ref (an Z pre L0.length), .int x] ((pre ++ L0) ++ [.inr (4, [.null])]) (pre ++ (L0 ++ [.inr (4, [.ref (an Z pre (L0.length + 1))]), .inl (zI Z, n, .inl (fun _ => 0))])) 1 n := by
  have h := c_X4_init (Z := Z) (pre := pre ++ L0) hx hn
  rw [an_app, an_app, List.append_assoc pre L0 [_, _]] at h
  exact h
/-- Office.set on an office that is being made -/
theorem c_X3_setN {Z : ZC} {pre : List va_E} {a b v : Int32} {f : Nat → Int32} (h0 : ¬ a + b < 0) (h1 : ¬ 159 ≤ a + b) (hin : vp_in (a + b) 159) : CtN Z yX3_set cX3_set 5 rm_X3_set [.ref (an Z pre 0), .int a, .int b, .int v] (pre ++ [.inr (3, [.ref (an Z pre 1)]), .inl (zI Z, 159, .inl f)]) (pre ++ [.inr (3, [.ref (an Z pre 1)]), .inl (zI Z, 159, .inl (upd f (a + b).toNatClampNeg v))]) 0 0 := by
  refine CtN_of (own := RX3) [some (.ref (an Z pre 0)), some (.int a), some (.int b), some (.int v), none] ⟨by decide, rfl⟩ rfl (Nat.le_of_ble_eq_true rfl) rfl (fun X hX _ hz0 hF => ?_)
  refine n_iload_n hX dX3_set_0 rfl rfl ?_
  refine n_iload_n hX dX3_set_1 rfl rfl ?_
  refine n_iadd hX dX3_set_2 ?_
  refine n_istore hX dX3_set_3 (Nat.le_of_ble_eq_true rfl) rfl ?_
  refine n_iload hX dX3_set_5 rfl ?_
  refine n_if_lt hX dX3_set_7 (fun h => absurd h h0) (fun _ => ?_)
  refine n_iload hX dX3_set_10 rfl ?_
  refine n_aload_n hX dX3_set_12 rfl rfl ?_
  refine n_get (j := 0) hX dX3_set_13 fi_3_9 rfl rfl ?_
  refine n_alen (v := 159) hX 0 dX3_set_16 rfl rfl (show Int32.ofNat 159 = 159 by decide) ?_
  refine n_icmp_ge hX dX3_set_17 (fun h => absurd h h1) (fun _ => ?_)
  refine n_aload_n hX dX3_set_20 rfl rfl ?_
  refine n_get (j := 0) hX dX3_set_21 fi_3_9 rfl rfl ?_
  refine n_iload hX dX3_set_24 rfl ?_
  refine n_iload_n hX dX3_set_26 rfl rfl ?_
  refine n_iast (j := 1) hX dX3_set_27 rfl hin ?_
  exact n_vret hX hF dX3_set_28 rfl rfl rfl
abbrev rm_X3_init : Room := { frames := 1, cells := 1, slots := 159, locals := 24 }
set_option maxHeartbeats 4000000 in
set_option maxRecDepth 20000 in
theorem c_X3_init {Z : ZC} {pre : List va_E} : CtN Z yX3_init cX3_init 2 rm_X3_init [.ref (an Z pre 0)] (pre ++ [.inr (3, [.null])]) (pre ++ [.inr (3, [.ref (an Z pre 1)]), .inl (zI Z, 159, .inl (upd (upd (upd (upd (upd (upd (upd (upd (fun _ => 0) (148 + 0 : Int32).toNatClampNeg (-9)) (152 + 0 : Int32).toNatClampNeg 0) (148 + (0 + 1) : Int32).toNatClampNeg (-9)) (152 + (0 + 1) : Int32).toNatClampNeg (0 + 1)) (148 + ((0 + 1) + 1) : Int32).toNatClampNeg (-9)) (152 + ((0 + 1) + 1) : Int32).toNatClampNeg ((0 + 1) + 1)) (148 + (((0 + 1) + 1) + 1) : Int32).toNatClampNeg (-9)) (152 + (((0 + 1) + 1) + 1) : Int32).toNatClampNeg (((0 + 1) + 1) + 1)))]) 1 159 := by
  refine CtN_of (own := RX3) [some (.ref (an Z pre 0)), none] ⟨by decide, rfl⟩ rfl (Nat.le_of_ble_eq_true rfl) rfl (fun X hX hin hz0 hF => ?_)
  refine n_aload_n hX dX3_init_0 rfl rfl ?_
  refine n_oinit hX dX3_init_1 oi_3_3 rfl rfl (Nat.le_of_ble_eq_true rfl) ?_
  refine n_aload_n hX dX3_init_4 rfl rfl ?_
  refine n_sipush hX dX3_init_5 sp_159 ?_
  refine n_newI (N := 159) hX dX3_init_8 wa_int (by decide) (by decide) (by decide) (by rw [hz0]; simp only [List.length_append, List.length_cons, List.length_nil]; try omega) (Nat.le_of_ble_eq_true rfl) (Nat.le_of_ble_eq_true rfl) ?_
  show JN Z X 2 pre [.inr (3, [.null]), .inl (zI Z, 159, .inl (fun _ => 0))] 1 159 10 [some (.ref (an Z pre 0)), none] [.ref (an Z pre 1), .ref (an Z pre 0)]
  refine n_putF (j := 0) hX hin dX3_init_10 fi_3_9 rfl tyX3_ok nmX3 rfl rfl rfl rfl rfl (Nat.le_of_ble_eq_true rfl) ?_
  show JN Z X 2 pre [.inr (3, [.ref (an Z pre 1)]), .inl (zI Z, 159, .inl (fun _ => 0))] 1 159 13 [some (.ref (an Z pre 0)), none] []
  refine n_iconst hX dX3_init_13 ic_0 ?_
  refine n_istore_n hX dX3_init_14 rfl (Nat.le_of_ble_eq_true rfl) rfl ?_
  refine n_iload_n hX dX3_init_15 rfl rfl ?_
  refine n_iconst hX dX3_init_16 ic_4 ?_
  refine n_icmp_ge hX dX3_init_17 (fun h => absurd h (by decide)) (fun _ => ?_)
  refine n_aload_n hX dX3_init_20 rfl rfl ?_
  refine n_sipush hX dX3_init_21 sp_148 ?_
  refine n_iload_n hX dX3_init_24 rfl rfl ?_
  refine n_bipush hX dX3_init_25 bp_m9 ?_
  refine n_callV (j := 0) (As := [.int 148, .int 0, .int (-9)]) hX dX3_init_27 (c_X3_setN (by decide) (by decide) (by unfold vp_in; decide)) mi_X3_set ml_3_15 rfl rfl rfl rfl (by rw [hz0]; simp only [List.length_append, List.length_cons, List.length_nil]; try omega) rfl (Nat.le_of_ble_eq_true rfl) (Nat.le_of_ble_eq_true rfl) rfl (Nat.le_of_ble_eq_true rfl) ?_
  show JN Z X 2 pre [.inr (3, [.ref (an Z pre 1)]), .inl (zI Z, 159, .inl (upd (fun _ => 0) (148 + 0 : Int32).toNatClampNeg (-9)))] 1 159 30 [some (.ref (an Z pre 0)), some (.int 0)] []
  refine n_aload_n hX dX3_init_30 rfl rfl ?_
  refine n_sipush hX dX3_init_31 sp_152 ?_
  refine n_iload_n hX dX3_init_34 rfl rfl ?_
  refine n_iload_n hX dX3_init_35 rfl rfl ?_
  refine n_callV (j := 0) (As := [.int 152, .int 0, .int 0]) hX dX3_init_36 (c_X3_setN (by decide) (by decide) (by unfold vp_in; decide)) mi_X3_set ml_3_15 rfl rfl rfl rfl (by rw [hz0]; simp only [List.length_append, List.length_cons, List.length_nil]; try omega) rfl (Nat.le_of_ble_eq_true rfl) (Nat.le_of_ble_eq_true rfl) rfl (Nat.le_of_ble_eq_true rfl) ?_
  show JN Z X 2 pre [.inr (3, [.ref (an Z pre 1)]), .inl (zI Z, 159, .inl (upd (upd (fun _ => 0) (148 + 0 : Int32).toNatClampNeg (-9)) (152 + 0 : Int32).toNatClampNeg 0))] 1 159 39 [some (.ref (an Z pre 0)), some (.int 0)] []
  refine n_iinc hX dX3_init_39 ic_1 rfl (Nat.le_of_ble_eq_true rfl) rfl ?_
  refine n_goto hX dX3_init_42 ?_
  show JN Z X 2 pre [.inr (3, [.ref (an Z pre 1)]), .inl (zI Z, 159, .inl (upd (upd (fun _ => 0) (148 + 0 : Int32).toNatClampNeg (-9)) (152 + 0 : Int32).toNatClampNeg 0))] 1 159 15 [some (.ref (an Z pre 0)), some (.int (0 + 1))] []
  refine n_iload_n hX dX3_init_15 rfl rfl ?_
  refine n_iconst hX dX3_init_16 ic_4 ?_
  refine n_icmp_ge hX dX3_init_17 (fun h => absurd h (by decide)) (fun _ => ?_)
  refine n_aload_n hX dX3_init_20 rfl rfl ?_
  refine n_sipush hX dX3_init_21 sp_148 ?_
  refine n_iload_n hX dX3_init_24 rfl rfl ?_
  refine n_bipush hX dX3_init_25 bp_m9 ?_
  refine n_callV (j := 0) (As := [.int 148, .int (0 + 1), .int (-9)]) hX dX3_init_27 (c_X3_setN (by decide) (by decide) (by unfold vp_in; decide)) mi_X3_set ml_3_15 rfl rfl rfl rfl (by rw [hz0]; simp only [List.length_append, List.length_cons, List.length_nil]; try omega) rfl (Nat.le_of_ble_eq_true rfl) (Nat.le_of_ble_eq_true rfl) rfl (Nat.le_of_ble_eq_true rfl) ?_
  show JN Z X 2 pre [.inr (3, [.ref (an Z pre 1)]), .inl (zI Z, 159, .inl (upd (upd (upd (fun _ => 0) (148 + 0 : Int32).toNatClampNeg (-9)) (152 + 0 : Int32).toNatClampNeg 0) (148 + (0 + 1) : Int32).toNatClampNeg (-9)))] 1 159 30 [some (.ref (an Z pre 0)), some (.int (0 + 1))] []
  refine n_aload_n hX dX3_init_30 rfl rfl ?_
  refine n_sipush hX dX3_init_31 sp_152 ?_
  refine n_iload_n hX dX3_init_34 rfl rfl ?_
  refine n_iload_n hX dX3_init_35 rfl rfl ?_
  refine n_callV (j := 0) (As := [.int 152, .int (0 + 1), .int (0 + 1)]) hX dX3_init_36 (c_X3_setN (by decide) (by decide) (by unfold vp_in; decide)) mi_X3_set ml_3_15 rfl rfl rfl rfl (by rw [hz0]; simp only [List.length_append, List.length_cons, List.length_nil]; try omega) rfl (Nat.le_of_ble_eq_true rfl) (Nat.le_of_ble_eq_true rfl) rfl (Nat.le_of_ble_eq_true rfl) ?_
  show JN Z X 2 pre [.inr (3, [.ref (an Z pre 1)]), .inl (zI Z, 159, .inl (upd (upd (upd (upd (fun _ => 0) (148 + 0 : Int32).toNatClampNeg (-9)) (152 + 0 : Int32).toNatClampNeg 0) (148 + (0 + 1) : Int32).toNatClampNeg (-9)) (152 + (0 + 1) : Int32).toNatClampNeg (0 + 1)))] 1 159 39 [some (.ref (an Z pre 0)), some (.int (0 + 1))] []
  refine n_iinc hX dX3_init_39 ic_1 rfl (Nat.le_of_ble_eq_true rfl) rfl ?_
  refine n_goto hX dX3_init_42 ?_
  show JN Z X 2 pre [.inr (3, [.ref (an Z pre 1)]), .inl (zI Z, 159, .inl (upd (upd (upd (upd (fun _ => 0) (148 + 0 : Int32).toNatClampNeg (-9)) (152 + 0 : Int32).toNatClampNeg 0) (148 + (0 + 1) : Int32).toNatClampNeg (-9)) (152 + (0 + 1) : Int32).toNatClampNeg (0 + 1)))] 1 159 15 [some (.ref (an Z pre 0)), some (.int ((0 + 1) + 1))] []
  refine n_iload_n hX dX3_init_15 rfl rfl ?_
  refine n_iconst hX dX3_init_16 ic_4 ?_
  refine n_icmp_ge hX dX3_init_17 (fun h => absurd h (by decide)) (fun _ => ?_)
  refine n_aload_n hX dX3_init_20 rfl rfl ?_
  refine n_sipush hX dX3_init_21 sp_148 ?_
  refine n_iload_n hX dX3_init_24 rfl rfl ?_
  refine n_bipush hX dX3_init_25 bp_m9 ?_
  refine n_callV (j := 0) (As := [.int 148, .int ((0 + 1) + 1), .int (-9)]) hX dX3_init_27 (c_X3_setN (by decide) (by decide) (by unfold vp_in; decide)) mi_X3_set ml_3_15 rfl rfl rfl rfl (by rw [hz0]; simp only [List.length_append, List.length_cons, List.length_nil]; try omega) rfl (Nat.le_of_ble_eq_true rfl) (Nat.le_of_ble_eq_true rfl) rfl (Nat.le_of_ble_eq_true rfl) ?_
  show JN Z X 2 pre [.inr (3, [.ref (an Z pre 1)]), .inl (zI Z, 159, .inl (upd (upd (upd (upd (upd (fun _ => 0) (148 + 0 : Int32).toNatClampNeg (-9)) (152 + 0 : Int32).toNatClampNeg 0) (148 + (0 + 1) : Int32).toNatClampNeg (-9)) (152 + (0 + 1) : Int32).toNatClampNeg (0 + 1)) (148 + ((0 + 1) + 1) : Int32).toNatClampNeg (-9)))] 1 159 30 [some (.ref (an Z pre 0)), some (.int ((0 + 1) + 1))] []
  refine n_aload_n hX dX3_init_30 rfl rfl ?_
  refine n_sipush hX dX3_init_31 sp_152 ?_
  refine n_iload_n hX dX3_init_34 rfl rfl ?_
  refine n_iload_n hX dX3_init_35 rfl rfl ?_
  refine n_callV (j := 0) (As := [.int 152, .int ((0 + 1) + 1), .int ((0 + 1) + 1)]) hX dX3_init_36 (c_X3_setN (by decide) (by decide) (by unfold vp_in; decide)) mi_X3_set ml_3_15 rfl rfl rfl rfl (by rw [hz0]; simp only [List.length_append, List.length_cons, List.length_nil]; try omega) rfl (Nat.le_of_ble_eq_true rfl) (Nat.le_of_ble_eq_true rfl) rfl (Nat.le_of_ble_eq_true rfl) ?_
  show JN Z X 2 pre [.inr (3, [.ref (an Z pre 1)]), .inl (zI Z, 159, .inl (upd (upd (upd (upd (upd (upd (fun _ => 0) (148 + 0 : Int32).toNatClampNeg (-9)) (152 + 0 : Int32).toNatClampNeg 0) (148 + (0 + 1) : Int32).toNatClampNeg (-9)) (152 + (0 + 1) : Int32).toNatClampNeg (0 + 1)) (148 + ((0 + 1) + 1) : Int32).toNatClampNeg (-9)) (152 + ((0 + 1) + 1) : Int32).toNatClampNeg ((0 + 1) + 1)))] 1 159 39 [some (.ref (an Z pre 0)), some (.int ((0 + 1) + 1))] []
  refine n_iinc hX dX3_init_39 ic_1 rfl (Nat.le_of_ble_eq_true rfl) rfl ?_
  refine n_goto hX dX3_init_42 ?_
  show JN Z X 2 pre [.inr (3, [.ref (an Z pre 1)]), .inl (zI Z, 159, .inl (upd (upd (upd (upd (upd (upd (fun _ => 0) (148 + 0 : Int32).toNatClampNeg (-9)) (152 + 0 : Int32).toNatClampNeg 0) (148 + (0 + 1) : Int32).toNatClampNeg (-9)) (152 + (0 + 1) : Int32).toNatClampNeg (0 + 1)) (148 + ((0 + 1) + 1) : Int32).toNatClampNeg (-9)) (152 + ((0 + 1) + 1) : Int32).toNatClampNeg ((0 + 1) + 1)))] 1 159 15 [some (.ref (an Z pre 0)), some (.int (((0 + 1) + 1) + 1))] []
  refine n_iload_n hX dX3_init_15 rfl rfl ?_
  refine n_iconst hX dX3_init_16 ic_4 ?_
  refine n_icmp_ge hX dX3_init_17 (fun h => absurd h (by decide)) (fun _ => ?_)
  refine n_aload_n hX dX3_init_20 rfl rfl ?_
  refine n_sipush hX dX3_init_21 sp_148 ?_
  refine n_iload_n hX dX3_init_24 rfl rfl ?_
  refine n_bipush hX dX3_init_25 bp_m9 ?_
  refine n_callV (j := 0) (As := [.int 148, .int (((0 + 1) + 1) + 1), .int (-9)]) hX dX3_init_27 (c_X3_setN (by decide) (by decide) (by unfold vp_in; decide)) mi_X3_set ml_3_15 rfl rfl rfl rfl (by rw [hz0]; simp only [List.length_append, List.length_cons, List.length_nil]; try omega) rfl (Nat.le_of_ble_eq_true rfl) (Nat.le_of_ble_eq_true rfl) rfl (Nat.le_of_ble_eq_true rfl) ?_
  show JN Z X 2 pre [.inr (3, [.ref (an Z pre 1)]), .inl (zI Z, 159, .inl (upd (upd (upd (upd (upd (upd (upd (fun _ => 0) (148 + 0 : Int32).toNatClampNeg (-9)) (152 + 0 : Int32).toNatClampNeg 0) (148 + (0 + 1) : Int32).toNatClampNeg (-9)) (152 + (0 + 1) : Int32).toNatClampNeg (0 + 1)) (148 + ((0 + 1) + 1) : Int32).toNatClampNeg (-9)) (152 + ((0 + 1) + 1) : Int32).toNatClampNeg ((0 + 1) + 1)) (148 + (((0 + 1) + 1) + 1) : Int32).toNatClampNeg (-9)))] 1 159 30 [some (.ref (an Z pre 0)), some (.int (((0 + 1) + 1) + 1))] []
  refine n_aload_n hX dX3_init_30 rfl rfl ?_
  refine n_sipush hX dX3_init_31 sp_152 ?_
  refine n_iload_n hX dX3_init_34 rfl rfl ?_
  refine n_iload_n hX dX3_init_35 rfl rfl ?_
  refine n_callV (j := 0) (As := [.int 152, .int (((0 + 1) + 1) + 1), .int (((0 + 1) + 1) + 1)]) hX dX3_init_36 (c_X3_setN (by decide) (by decide) (by unfold vp_in; decide)) mi_X3_set ml_3_15 rfl rfl rfl rfl (by rw [hz0]; simp only [List.length_append, List.length_cons, List.length_nil]; try omega) rfl (Nat.le_of_ble_eq_true rfl) (Nat.le_of_ble_eq_true rfl) rfl (Nat.le_of_ble_eq_true rfl) ?_
  show JN Z X 2 pre [.inr (3, [.ref (an Z pre 1)]), .inl (zI Z, 159, .inl (upd (upd (upd (upd (upd (upd (upd (upd (fun _ => 0) (148 + 0 : Int32).toNatClampNeg (-9)) (152 + 0 : Int32).toNatClampNeg 0) (148 + (0 + 1) : Int32).toNatClampNeg (-9)) (152 + (0 + 1) : Int32).toNatClampNeg (0 + 1)) (148 + ((0 + 1) + 1) : Int32).toNatClampNeg (-9)) (152 + ((0 + 1) + 1) : Int32).toNatClampNeg ((0 + 1) + 1)) (148 + (((0 + 1) + 1) + 1) : Int32).toNatClampNeg (-9)) (152 + (((0 + 1) + 1) + 1) : Int32).toNatClampNeg (((0 + 1) + 1) + 1)))] 1 159 39 [some (.ref (an Z pre 0)), some (.int (((0 + 1) + 1) + 1))] []
  refine n_iinc hX dX3_init_39 ic_1 rfl (Nat.le_of_ble_eq_true rfl) rfl ?_
  refine n_goto hX dX3_init_42 ?_
  show JN Z X 2 pre [.inr (3, [.ref (an Z pre 1)]), .inl (zI Z, 159, .inl (upd (upd (upd (upd (upd (upd (upd (upd (fun _ => 0) (148 + 0 : Int32).toNatClampNeg (-9)) (152 + 0 : Int32).toNatClampNeg 0) (148 + (0 + 1) : Int32).toNatClampNeg (-9)) (152 + (0 + 1) : Int32).toNatClampNeg (0 + 1)) (148 + ((0 + 1) + 1) : Int32).toNatClampNeg (-9)) (152 + ((0 + 1) + 1) : Int32).toNatClampNeg ((0 + 1) + 1)) (148 + (((0 + 1) + 1) + 1) : Int32).toNatClampNeg (-9)) (152 + (((0 + 1) + 1) + 1) : Int32).toNatClampNeg (((0 + 1) + 1) + 1)))] 1 159 15 [some (.ref (an Z pre 0)), some (.int ((((0 + 1) + 1) + 1) + 1))] []
  refine n_iload_n hX dX3_init_15 rfl rfl ?_
  refine n_iconst hX dX3_init_16 ic_4 ?_
  refine n_icmp_ge hX dX3_init_17 (fun _ => ?_) (fun h => absurd (by decide) h)
  exact n_vret hX hF dX3_init_45 rfl rfl rfl
theorem c_X3_init' {Z : ZC} (pre L0 : List va_E) : CtN Z yX3_init cX3_init 2 rm_X3_init [.ref (an Z pre L0.length)] ((pre ++ L0) ++ [.inr (3, [.null])]) (pre ++ (L0 ++ [.inr (3, [.ref (an Z pre (L0.length + 1))]), .inl (zI Z, 159, .inl (upd (upd (upd (upd (upd (upd (upd (upd (fun _ => 0) (148 + 0 : Int32).toNatClampNeg (-9)) (152 + 0 : Int32).toNatClampNeg 0) (148 + (0 + 1) : Int32).toNatClampNeg (-9)) (152 + (0 + 1) : Int32).toNatClampNeg (0 + 1)) (148 + ((0 + 1) + 1) : Int32).toNatClampNeg (-9)) (152 + ((0 + 1) + 1) : Int32).toNatClampNeg ((0 + 1) + 1)) (148 + (((0 + 1) + 1) + 1) : Int32).toNatClampNeg (-9)) (152 + (((0 + 1) + 1) + 1) : Int32).toNatClampNeg (((0 + 1) + 1) + 1)))])) 1 159 := by
  have h := c_X3_init (Z := Z) (pre := pre ++ L0)
  simp only [an_app, Nat.add_zero] at h
  rw [← List.append_assoc pre L0 [.inr (3, [.ref (an Z pre (L0.length + 1))]), .inl (zI Z, 159, .inl (upd (upd (upd (upd (upd (upd (upd (upd (fun _ => 0) (148 + 0 : Int32).toNatClampNeg (-9)) (152 + 0 : Int32).toNatClampNeg 0) (148 + (0 + 1) : Int32).toNatClampNeg (-9)) (152 + (0 + 1) : Int32).toNatClampNeg (0 + 1)) (148 + ((0 + 1) + 1) : Int32).toNatClampNeg (-9)) (152 + ((0 + 1) + 1) : Int32).toNatClampNeg ((0 + 1) + 1)) (148 + (((0 + 1) + 1) + 1) : Int32).toNatClampNeg (-9)) (152 + (((0 + 1) + 1) + 1) : Int32).toNatClampNeg (((0 + 1) + 1) + 1)))]]
  exact h
abbrev rm_X5_init : Room := { frames := 2, cells := 3, slots := 21, locals := 42 }
set_option maxHeartbeats 4000000 in
set_option maxRecDepth 20000 in
theorem c_X5_init {Z : ZC} {pre : List va_E} : CtN Z yX5_init cX5_init 1 rm_X5_init [.ref (an Z pre 0)] (pre ++ [.inr (5, [.null, .null])]) (pre ++ [.inr (5, [.ref (an Z pre 1), .ref (an Z pre 2)]), .inl (zI Z, 16, .inl (fun _ => 0)), .inr (4, [.ref (an Z pre 3)]), .inl (zI Z, 4, .inl (fun _ => 0))]) 3 21 := by
  refine CtN_of (own := RX5) [some (.ref (an Z pre 0))] ⟨by decide, rfl⟩ rfl (Nat.le_of_ble_eq_true rfl) rfl (fun X hX hin hz0 hF => ?_)
  refine n_aload_n hX dX5_init_0 rfl rfl ?_
  refine n_oinit hX dX5_init_1 oi_5_3 rfl rfl (Nat.le_of_ble_eq_true rfl) ?_
  refine n_aload_n hX dX5_init_4 rfl rfl ?_
  refine n_bipush hX dX5_init_5 bp_16 ?_
  refine n_newI (N := 16) hX dX5_init_7 wa_int (by decide) (by decide) (by decide) (by rw [hz0]; simp only [List.length_append, List.length_cons, List.length_nil]; try omega) (Nat.le_of_ble_eq_true rfl) (Nat.le_of_ble_eq_true rfl) ?_
  show JN Z X 1 pre [.inr (5, [.null, .null]), .inl (zI Z, 16, .inl (fun _ => 0))] 1 16 9 [some (.ref (an Z pre 0))] [.ref (an Z pre 1), .ref (an Z pre 0)]
  refine n_putF (j := 0) hX hin dX5_init_9 fi_5_9 rfl tyX5_ok nmX5 rfl rfl rfl rfl rfl (Nat.le_of_ble_eq_true rfl) ?_
  show JN Z X 1 pre [.inr (5, [.ref (an Z pre 1), .null]), .inl (zI Z, 16, .inl (fun _ => 0))] 1 16 12 [some (.ref (an Z pre 0))] []
  refine n_aload_n hX dX5_init_12 rfl rfl ?_
  refine n_new (ci := 4) (ty := tyX4) (fs := [.null]) hX dX5_init_13 rfl us_4 tyX4_ok wc_5_15 wi_4 wn_4 df_4 (by rw [hz0]; simp only [List.length_append, List.length_cons, List.length_nil]; try omega) (Nat.le_of_ble_eq_true rfl) (Nat.le_of_ble_eq_true rfl) ?_
  show JN Z X 1 pre [.inr (5, [.ref (an Z pre 1), .null]), .inl (zI Z, 16, .inl (fun _ => 0)), .inr (4, [.null])] 2 17 16 [some (.ref (an Z pre 0))] [.ref (an Z pre 2), .ref (an Z pre 0)]
  refine n_dup hX dX5_init_16 rfl ?_
  refine n_iconst hX dX5_init_17 ic_4 ?_
  refine n_callI (L0 := [.inr (5, [.ref (an Z pre 1), .null]), .inl (zI Z, 16, .inl (fun _ => 0))]) (L1 := [.inr (4, [.null])]) (As := [.int 4]) hX dX5_init_18 (c_X4_init' pre [.inr (5, [.ref (an Z pre 1), .null]), .inl (zI Z, 16, .inl (fun _ => 0))] (n := 4) (by decide) (by decide)) mc_X4_init (Or.inl ml_5_17) rfl rfl (by rw [hz0]; simp only [List.length_append, List.length_cons, List.length_nil]; try omega) ⟨Nat.le_of_ble_eq_true rfl, Nat.le_of_ble_eq_true rfl⟩ rfl rfl (Nat.le_of_ble_eq_true rfl) (Nat.le_of_ble_eq_true rfl) rfl (Nat.le_of_ble_eq_true rfl) ?_
  show JN Z X 1 pre [.inr (5, [.ref (an Z pre 1), .null]), .inl (zI Z, 16, .inl (fun _ => 0)), .inr (4, [.ref (an Z pre 3)]), .inl (zI Z, 4, .inl (fun _ => 0))] 3 21 21 [some (.ref (an Z pre 0))] [.ref (an Z pre 2), .ref (an Z pre 0)]
  refine n_putF (j := 0) hX hin dX5_init_21 fi_5_20 rfl tyX5_ok nmX5 rfl rfl rfl rfl rfl (Nat.le_of_ble_eq_true rfl) ?_
  show JN Z X 1 pre [.inr (5, [.ref (an Z pre 1), .ref (an Z pre 2)]), .inl (zI Z, 16, .inl (fun _ => 0)), .inr (4, [.ref (an Z pre 3)]), .inl (zI Z, 4, .inl (fun _ => 0))] 3 21 24 [some (.ref (an Z pre 0))] []
  exact n_vret hX hF dX5_init_24 rfl rfl rfl
theorem c_X5_init' {Z : ZC} (pre L0 : List va_E) : CtN Z yX5_init cX5_init 1 rm_X5_init [.ref (an Z pre L0.length)] ((pre ++ L0) ++ [.inr (5, [.null, .null])]) (pre ++ (L0 ++ [.inr (5, [.ref (an Z pre (L0.length + 1)), .ref (an Z pre (L0.length + 2))]), .inl (zI Z, 16, .inl (fun _ => 0)), .inr (4, [.ref (an Z pre (L0.length + 3))]), .inl (zI Z, 4, .inl (fun _ => 0))])) 3 21 := by
  have h := c_X5_init (Z := Z) (pre := pre ++ L0)
  simp only [an_app, Nat.add_zero] at h
  rw [← List.append_assoc pre L0 [.inr (5, [.ref (an Z pre (L0.length + 1)), .ref (an Z pre (L0.length + 2))]), .inl (zI Z, 16, .inl (fun _ => 0)), .inr (4, [.ref (an Z pre (L0.length + 3))]), .inl (zI Z, 4, .inl (fun _ => 0))]]
  exact h
abbrev rm_X1_init : Room := { frames := 2, cells := 2, slots := 1297, locals := 42 }
set_option maxHeartbeats 4000000 in
set_option maxRecDepth 20000 in
theorem c_X1_init {Z : ZC} {pre : List va_E} : CtN Z yX1_init cX1_init 1 rm_X1_init [.ref (an Z pre 0)] (pre ++ [.inr (1, [.null])]) (pre ++ [.inr (1, [.ref (an Z pre 1)]), .inr (4, [.ref (an Z pre 2)]), .inl (zI Z, 1296, .inl (fun _ => 0))]) 2 1297 := by
  refine CtN_of (own := RX1) [some (.ref (an Z pre 0))] ⟨by decide, rfl⟩ rfl (Nat.le_of_ble_eq_true rfl) rfl (fun X hX hin hz0 hF => ?_)
  refine n_aload_n hX dX1_init_0 rfl rfl ?_
  refine n_oinit hX dX1_init_1 oi_1_5 rfl rfl (Nat.le_of_ble_eq_true rfl) ?_
  refine n_aload_n hX dX1_init_4 rfl rfl ?_
  refine n_new (ci := 4) (ty := tyX4) (fs := [.null]) hX dX1_init_5 rfl us_4 tyX4_ok wc_1_11 wi_4 wn_4 df_4 (by rw [hz0]; simp only [List.length_append, List.length_cons, List.length_nil]; try omega) (Nat.le_of_ble_eq_true rfl) (Nat.le_of_ble_eq_true rfl) ?_
  show JN Z X 1 pre [.inr (1, [.null]), .inr (4, [.null])] 1 1 8 [some (.ref (an Z pre 0))] [.ref (an Z pre 1), .ref (an Z pre 0)]
  refine n_dup hX dX1_init_8 rfl ?_
  refine n_sipush hX dX1_init_9 sp_1296 ?_
  refine n_callI (L0 := [.inr (1, [.null])]) (L1 := [.inr (4, [.null])]) (As := [.int 1296]) hX dX1_init_12 (c_X4_init' pre [.inr (1, [.null])] (n := 1296) (by decide) (by decide)) mc_X4_init (Or.inl ml_1_13) rfl rfl (by rw [hz0]; simp only [List.length_append, List.length_cons, List.length_nil]; try omega) ⟨Nat.le_of_ble_eq_true rfl, Nat.le_of_ble_eq_true rfl⟩ rfl rfl (Nat.le_of_ble_eq_true rfl) (Nat.le_of_ble_eq_true rfl) rfl (Nat.le_of_ble_eq_true rfl) ?_
  show JN Z X 1 pre [.inr (1, [.null]), .inr (4, [.ref (an Z pre 2)]), .inl (zI Z, 1296, .inl (fun _ => 0))] 2 1297 15 [some (.ref (an Z pre 0))] [.ref (an Z pre 1), .ref (an Z pre 0)]
  refine n_putF (j := 0) hX hin dX1_init_15 fi_1_16 rfl tyX1_ok nmX1 rfl rfl rfl rfl rfl (Nat.le_of_ble_eq_true rfl) ?_
  show JN Z X 1 pre [.inr (1, [.ref (an Z pre 1)]), .inr (4, [.ref (an Z pre 2)]), .inl (zI Z, 1296, .inl (fun _ => 0))] 2 1297 18 [some (.ref (an Z pre 0))] []
  exact n_vret hX hF dX1_init_18 rfl rfl rfl
theorem c_X1_init' {Z : ZC} (pre L0 : List va_E) : CtN Z yX1_init cX1_init 1 rm_X1_init [.ref (an Z pre L0.length)] ((pre ++ L0) ++ [.inr (1, [.null])]) (pre ++ (L0 ++ [.inr (1, [.ref (an Z pre (L0.length + 1))]), .inr (4, [.ref (an Z pre (L0.length + 2))]), .inl (zI Z, 1296, .inl (fun _ => 0))])) 2 1297 := by
  have h := c_X1_init (Z := Z) (pre := pre ++ L0)
  simp only [an_app, Nat.add_zero] at h
  rw [← List.append_assoc pre L0 [.inr (1, [.ref (an Z pre (L0.length + 1))]), .inr (4, [.ref (an Z pre (L0.length + 2))]), .inl (zI Z, 1296, .inl (fun _ => 0))]]
  exact h
abbrev rm_X0_init : Room := { frames := 3, cells := 20, slots := 135, locals := 62 }
set_option maxHeartbeats 4000000 in
set_option maxRecDepth 20000 in
theorem c_X0_init {Z : ZC} {pre : List va_E} : CtN Z yX0_init cX0_init 1 rm_X0_init [.ref (an Z pre 0)] (pre ++ [.inr (0, [.null, .null, .null, .null, .null, .null, .null, .null, .null, .int 0, .int 0, .int 0])]) (pre ++ [.inr (0, [.ref (an Z pre 1), .ref (an Z pre 3), .ref (an Z pre 5), .ref (an Z pre 7), .ref (an Z pre 9), .ref (an Z pre 11), .ref (an Z pre 13), .ref (an Z pre 15), .ref (an Z pre 17), .int 0, .int 0, .int 0]), .inr (4, [.ref (an Z pre 2)]), .inl (zI Z, 16, .inl (fun _ => 0)), .inr (4, [.ref (an Z pre 4)]), .inl (zI Z, 4, .inl (fun _ => 0)), .inr (4, [.ref (an Z pre 6)]), .inl (zI Z, 16, .inl (fun _ => 0)), .inr (4, [.ref (an Z pre 8)]), .inl (zI Z, 4, .inl (fun _ => 0)), .inr (4, [.ref (an Z pre 10)]), .inl (zI Z, 16, .inl (fun _ => 0)), .inr (4, [.ref (an Z pre 12)]), .inl (zI Z, 16, .inl (fun _ => 0)), .inr (4, [.ref (an Z pre 14)]), .inl (zI Z, 16, .inl (fun _ => 0)), .inr (4, [.ref (an Z pre 16)]), .inl (zI Z, 16, .inl (fun _ => 0)), .inr (5, [.ref (an Z pre 18), .ref (an Z pre 19)]), .inl (zI Z, 16, .inl (fun _ => 0)), .inr (4, [.ref (an Z pre 20)]), .inl (zI Z, 4, .inl (fun _ => 0))]) 20 135 := by
  refine CtN_of (own := RX0) [some (.ref (an Z pre 0))] ⟨by decide, rfl⟩ rfl (Nat.le_of_ble_eq_true rfl) rfl (fun X hX hin hz0 hF => ?_)
  refine n_aload_n hX dX0_init_0 rfl rfl ?_
  refine n_oinit hX dX0_init_1 oi_0_3 rfl rfl (Nat.le_of_ble_eq_true rfl) ?_
  refine n_aload_n hX dX0_init_4 rfl rfl ?_
  refine n_new (ci := 4) (ty := tyX4) (fs := [.null]) hX dX0_init_5 rfl us_4 tyX4_ok wc_0_9 wi_4 wn_4 df_4 (by rw [hz0]; simp only [List.length_append, List.length_cons, List.length_nil]; try omega) (Nat.le_of_ble_eq_true rfl) (Nat.le_of_ble_eq_true rfl) ?_
  show JN Z X 1 pre [.inr (0, [.null, .null, .null, .null, .null, .null, .null, .null, .null, .int 0, .int 0, .int 0]), .inr (4, [.null])] 1 1 8 [some (.ref (an Z pre 0))] [.ref (an Z pre 1), .ref (an Z pre 0)]
  refine n_dup hX dX0_init_8 rfl ?_
  refine n_bipush hX dX0_init_9 bp_16 ?_
  refine n_callI (L0 := [.inr (0, [.null, .null, .null, .null, .null, .null, .null, .null, .null, .int 0, .int 0, .int 0])]) (L1 := [.inr (4, [.null])]) (As := [.int 16]) hX dX0_init_11 (c_X4_init' pre [.inr (0, [.null, .null, .null, .null, .null, .null, .null, .null, .null, .int 0, .int 0, .int 0])] (n := 16) (by decide) (by decide)) mc_X4_init (Or.inl ml_0_11) rfl rfl (by rw [hz0]; simp only [List.length_append, List.length_cons, List.length_nil]; try omega) ⟨Nat.le_of_ble_eq_true rfl, Nat.le_of_ble_eq_true rfl⟩ rfl rfl (Nat.le_of_ble_eq_true rfl) (Nat.le_of_ble_eq_true rfl) rfl (Nat.le_of_ble_eq_true rfl) ?_
  show JN Z X 1 pre [.inr (0, [.null, .null, .null, .null, .null, .null, .null, .null, .null, .int 0, .int 0, .int 0]), .inr (4, [.ref (an Z pre 2)]), .inl (zI Z, 16, .inl (fun _ => 0))] 2 17 14 [some (.ref (an Z pre 0))] [.ref (an Z pre 1), .ref (an Z pre 0)]
  refine n_putF (j := 0) hX hin dX0_init_14 fi_0_14 rfl tyX0_ok nmX0 rfl rfl rfl rfl rfl (Nat.le_of_ble_eq_true rfl) ?_
  show JN Z X 1 pre [.inr (0, [.ref (an Z pre 1), .null, .null, .null, .null, .null, .null, .null, .null, .int 0, .int 0, .int 0]), .inr (4, [.ref (an Z pre 2)]), .inl (zI Z, 16, .inl (fun _ => 0))] 2 17 17 [some (.ref (an Z pre 0))] []
  refine n_aload_n hX dX0_init_17 rfl rfl ?_
  refine n_new (ci := 4) (ty := tyX4) (fs := [.null]) hX dX0_init_18 rfl us_4 tyX4_ok wc_0_9 wi_4 wn_4 df_4 (by rw [hz0]; simp only [List.length_append, List.length_cons, List.length_nil]; try omega) (Nat.le_of_ble_eq_true rfl) (Nat.le_of_ble_eq_true rfl) ?_
  show JN Z X 1 pre [.inr (0, [.ref (an Z pre 1), .null, .null, .null, .null, .null, .null, .null, .null, .int 0, .int 0, .int 0]), .inr (4, [.ref (an Z pre 2)]), .inl (zI Z, 16, .inl (fun _ => 0)), .inr (4, [.null])] 3 18 21 [some (.ref (an Z pre 0))] [.ref (an Z pre 3), .ref (an Z pre 0)]
  refine n_dup hX dX0_init_21 rfl ?_
  refine n_iconst hX dX0_init_22 ic_4 ?_
  refine n_callI (L0 := [.inr (0, [.ref (an Z pre 1), .null, .null, .null, .null, .null, .null, .null, .null, .int 0, .int 0, .int 0]), .inr (4, [.ref (an Z pre 2)]), .inl (zI Z, 16, .inl (fun _ => 0))]) (L1 := [.inr (4, [.null])]) (As := [.int 4]) hX dX0_init_23 (c_X4_init' pre [.inr (0, [.ref (an Z pre 1), .null, .null, .null, .null, .null, .null, .null, .null, .int 0, .int 0, .int 0]), .inr (4, [.ref (an Z pre 2)]), .inl (zI Z, 16, .inl (fun _ => 0))] (n := 4) (by decide) (by decide)) mc_X4_init (Or.inl ml_0_11) rfl rfl (by rw [hz0]; simp only [List.length_append, List.length_cons, List.length_nil]; try omega) ⟨Nat.le_of_ble_eq_true rfl, Nat.le_of_ble_eq_true rfl⟩ rfl rfl (Nat.le_of_ble_eq_true rfl) (Nat.le_of_ble_eq_true rfl) rfl (Nat.le_of_ble_eq_true rfl) ?_
  show JN Z X 1 pre [.inr (0, [.ref (an Z pre 1), .null, .null, .null, .null, .null, .null, .null, .null, .int 0, .int 0, .int 0]), .inr (4, [.ref (an Z pre 2)]), .inl (zI Z, 16, .inl (fun _ => 0)), .inr (4, [.ref (an Z pre 4)]), .inl (zI Z, 4, .inl (fun _ => 0))] 4 22 26 [some (.ref (an Z pre 0))] [.ref (an Z pre 3), .ref (an Z pre 0)]
  refine n_putF (j := 0) hX hin dX0_init_26 fi_0_20 rfl tyX0_ok nmX0 rfl rfl rfl rfl rfl (Nat.le_of_ble_eq_true rfl) ?_
  show JN Z X 1 pre [.inr (0, [.ref (an Z pre 1), .ref (an Z pre 3), .null, .null, .null, .null, .null, .null, .null, .int 0, .int 0, .int 0]), .inr (4, [.ref (an Z pre 2)]), .inl (zI Z, 16, .inl (fun _ => 0)), .inr (4, [.ref (an Z pre 4)]), .inl (zI Z, 4, .inl (fun _ => 0))] 4 22 29 [some (.ref (an Z pre 0))] []
  refine n_aload_n hX dX0_init_29 rfl rfl ?_
  refine n_new (ci := 4) (ty := tyX4) (fs := [.null]) hX dX0_init_30 rfl us_4 tyX4_ok wc_0_9 wi_4 wn_4 df_4 (by rw [hz0]; simp only [List.length_append, List.length_cons, List.length_nil]; try omega) (Nat.le_of_ble_eq_true rfl) (Nat.le_of_ble_eq_true rfl) ?_
  show JN Z X 1 pre [.inr (0, [.ref (an Z pre 1), .ref (an Z pre 3), .null, .null, .null, .null, .null, .null, .null, .int 0, .int 0, .int 0]), .inr (4, [.ref (an Z pre 2)]), .inl (zI Z, 16, .inl (fun _ => 0)), .inr (4, [.ref (an Z pre 4)]), .inl (zI Z, 4, .inl (fun _ => 0)), .inr (4, [.null])] 5 23 33 [some (.ref (an Z pre 0))] [.ref (an Z pre 5), .ref (an Z pre 0)]
  refine n_dup hX dX0_init_33 rfl ?_
  refine n_bipush hX dX0_init_34 bp_16 ?_
  refine n_callI (L0 := [.inr (0, [.ref (an Z pre 1), .ref (an Z pre 3), .null, .null, .null, .null, .null, .null, .null, .int 0, .int 0, .int 0]), .inr (4, [.ref (an Z pre 2)]), .inl (zI Z, 16, .inl (fun _ => 0)), .inr (4, [.ref (an Z pre 4)]), .inl (zI Z, 4, .inl (fun _ => 0))]) (L1 := [.inr (4, [.null])]) (As := [.int 16]) hX dX0_init_36 (c_X4_init' pre [.inr (0, [.ref (an Z pre 1), .ref (an Z pre 3), .null, .null, .null, .null, .null, .null, .null, .int 0, .int 0, .int 0]), .inr (4, [.ref (an Z pre 2)]), .inl (zI Z, 16, .inl (fun _ => 0)), .inr (4, [.ref (an Z pre 4)]), .inl (zI Z, 4, .inl (fun _ => 0))] (n := 16) (by decide) (by decide)) mc_X4_init (Or.inl ml_0_11) rfl rfl (by rw [hz0]; simp only [List.length_append, List.length_cons, List.length_nil]; try omega) ⟨Nat.le_of_ble_eq_true rfl, Nat.le_of_ble_eq_true rfl⟩ rfl rfl (Nat.le_of_ble_eq_true rfl) (Nat.le_of_ble_eq_true rfl) rfl (Nat.le_of_ble_eq_true rfl) ?_
  show JN Z X 1 pre [.inr (0, [.ref (an Z pre 1), .ref (an Z pre 3), .null, .null, .null, .null, .null, .null, .null, .int 0, .int 0, .int 0]), .inr (4, [.ref (an Z pre 2)]), .inl (zI Z, 16, .inl (fun _ => 0)), .inr (4, [.ref (an Z pre 4)]), .inl (zI Z, 4, .inl (fun _ => 0)), .inr (4, [.ref (an Z pre 6)]), .inl (zI Z, 16, .inl (fun _ => 0))] 6 39 39 [some (.ref (an Z pre 0))] [.ref (an Z pre 5), .ref (an Z pre 0)]
  refine n_putF (j := 0) hX hin dX0_init_39 fi_0_23 rfl tyX0_ok nmX0 rfl rfl rfl rfl rfl (Nat.le_of_ble_eq_true rfl) ?_
  show JN Z X 1 pre [.inr (0, [.ref (an Z pre 1), .ref (an Z pre 3), .ref (an Z pre 5), .null, .null, .null, .null, .null, .null, .int 0, .int 0, .int 0]), .inr (4, [.ref (an Z pre 2)]), .inl (zI Z, 16, .inl (fun _ => 0)), .inr (4, [.ref (an Z pre 4)]), .inl (zI Z, 4, .inl (fun _ => 0)), .inr (4, [.ref (an Z pre 6)]), .inl (zI Z, 16, .inl (fun _ => 0))] 6 39 42 [some (.ref (an Z pre 0))] []
  refine n_aload_n hX dX0_init_42 rfl rfl ?_
  refine n_new (ci := 4) (ty := tyX4) (fs := [.null]) hX dX0_init_43 rfl us_4 tyX4_ok wc_0_9 wi_4 wn_4 df_4 (by rw [hz0]; simp only [List.length_append, List.length_cons, List.length_nil]; try omega) (Nat.le_of_ble_eq_true rfl) (Nat.le_of_ble_eq_true rfl) ?_
  show JN Z X 1 pre [.inr (0, [.ref (an Z pre 1), .ref (an Z pre 3), .ref (an Z pre 5), .null, .null, .null, .null, .null, .null, .int 0, .int 0, .int 0]), .inr (4, [.ref (an Z pre 2)]), .inl (zI Z, 16, .inl (fun _ => 0)), .inr (4, [.ref (an Z pre 4)]), .inl (zI Z, 4, .inl (fun _ => 0)), .inr (4, [.ref (an Z pre 6)]), .inl (zI Z, 16, .inl (fun _ => 0)), .inr (4, [.null])] 7 40 46 [some (.ref (an Z pre 0))] [.ref (an Z pre 7), .ref (an Z pre 0)]
  refine n_dup hX dX0_init_46 rfl ?_
  refine n_iconst hX dX0_init_47 ic_4 ?_
  refine n_callI (L0 := [.inr (0, [.ref (an Z pre 1), .ref (an Z pre 3), .ref (an Z pre 5), .null, .null, .null, .null, .null, .null, .int 0, .int 0, .int 0]), .inr (4, [.ref (an Z pre 2)]), .inl (zI Z, 16, .inl (fun _ => 0)), .inr (4, [.ref (an Z pre 4)]), .inl (zI Z, 4, .inl (fun _ => 0)), .inr (4, [.ref (an Z pre 6)]), .inl (zI Z, 16, .inl (fun _ => 0))]) (L1 := [.inr (4, [.null])]) (As := [.int 4]) hX dX0_init_48 (c_X4_init' pre [.inr (0, [.ref (an Z pre 1), .ref (an Z pre 3), .ref (an Z pre 5), .null, .null, .null, .null, .null, .null, .int 0, .int 0, .int 0]), .inr (4, [.ref (an Z pre 2)]), .inl (zI Z, 16, .inl (fun _ => 0)), .inr (4, [.ref (an Z pre 4)]), .inl (zI Z, 4, .inl (fun _ => 0)), .inr (4, [.ref (an Z pre 6)]), .inl (zI Z, 16, .inl (fun _ => 0))] (n := 4) (by decide) (by decide)) mc_X4_init (Or.inl ml_0_11) rfl rfl (by rw [hz0]; simp only [List.length_append, List.length_cons, List.length_nil]; try omega) ⟨Nat.le_of_ble_eq_true rfl, Nat.le_of_ble_eq_true rfl⟩ rfl rfl (Nat.le_of_ble_eq_true rfl) (Nat.le_of_ble_eq_true rfl) rfl (Nat.le_of_ble_eq_true rfl) ?_
  show JN Z X 1 pre [.inr (0, [.ref (an Z pre 1), .ref (an Z pre 3), .ref (an Z pre 5), .null, .null, .null, .null, .null, .null, .int 0, .int 0, .int 0]), .inr (4, [.ref (an Z pre 2)]), .inl (zI Z, 16, .inl (fun _ => 0)), .inr (4, [.ref (an Z pre 4)]), .inl (zI Z, 4, .inl (fun _ => 0)), .inr (4, [.ref (an Z pre 6)]), .inl (zI Z, 16, .inl (fun _ => 0)), .inr (4, [.ref (an Z pre 8)]), .inl (zI Z, 4, .inl (fun _ => 0))] 8 44 51 [some (.ref (an Z pre 0))] [.ref (an Z pre 7), .ref (an Z pre 0)]
  refine n_putF (j := 0) hX hin dX0_init_51 fi_0_26 rfl tyX0_ok nmX0 rfl rfl rfl rfl rfl (Nat.le_of_ble_eq_true rfl) ?_
  show JN Z X 1 pre [.inr (0, [.ref (an Z pre 1), .ref (an Z pre 3), .ref (an Z pre 5), .ref (an Z pre 7), .null, .null, .null, .null, .null, .int 0, .int 0, .int 0]), .inr (4, [.ref (an Z pre 2)]), .inl (zI Z, 16, .inl (fun _ => 0)), .inr (4, [.ref (an Z pre 4)]), .inl (zI Z, 4, .inl (fun _ => 0)), .inr (4, [.ref (an Z pre 6)]), .inl (zI Z, 16, .inl (fun _ => 0)), .inr (4, [.ref (an Z pre 8)]), .inl (zI Z, 4, .inl (fun _ => 0))] 8 44 54 [some (.ref (an Z pre 0))] []
  refine n_aload_n hX dX0_init_54 rfl rfl ?_
  refine n_new (ci := 4) (ty := tyX4) (fs := [.null]) hX dX0_init_55 rfl us_4 tyX4_ok wc_0_9 wi_4 wn_4 df_4 (by rw [hz0]; simp only [List.length_append, List.length_cons, List.length_nil]; try omega) (Nat.le_of_ble_eq_true rfl) (Nat.le_of_ble_eq_true rfl) ?_
  show JN Z X 1 pre [.inr (0, [.ref (an Z pre 1), .ref (an Z pre 3), .ref (an Z pre 5), .ref (an Z pre 7), .null, .null, .null, .null, .null, .int 0, .int 0, .int 0]), .inr (4, [.ref (an Z pre 2)]), .inl (zI Z, 16, .inl (fun _ => 0)), .inr (4, [.ref (an Z pre 4)]), .inl (zI Z, 4, .inl (fun _ => 0)), .inr (4, [.ref (an Z pre 6)]), .inl (zI Z, 16, .inl (fun _ => 0)), .inr (4, [.ref (an Z pre 8)]), .inl (zI Z, 4, .inl (fun _ => 0)), .inr (4, [.null])] 9 45 58 [some (.ref (an Z pre 0))] [.ref (an Z pre 9), .ref (an Z pre 0)]
  refine n_dup hX dX0_init_58 rfl ?_
  refine n_bipush hX dX0_init_59 bp_16 ?_
  refine n_callI (L0 := [.inr (0, [.ref (an Z pre 1), .ref (an Z pre 3), .ref (an Z pre 5), .ref (an Z pre 7), .null, .null, .null, .null, .null, .int 0, .int 0, .int 0]), .inr (4, [.ref (an Z pre 2)]), .inl (zI Z, 16, .inl (fun _ => 0)), .inr (4, [.ref (an Z pre 4)]), .inl (zI Z, 4, .inl (fun _ => 0)), .inr (4, [.ref (an Z pre 6)]), .inl (zI Z, 16, .inl (fun _ => 0)), .inr (4, [.ref (an Z pre 8)]), .inl (zI Z, 4, .inl (fun _ => 0))]) (L1 := [.inr (4, [.null])]) (As := [.int 16]) hX dX0_init_61 (c_X4_init' pre [.inr (0, [.ref (an Z pre 1), .ref (an Z pre 3), .ref (an Z pre 5), .ref (an Z pre 7), .null, .null, .null, .null, .null, .int 0, .int 0, .int 0]), .inr (4, [.ref (an Z pre 2)]), .inl (zI Z, 16, .inl (fun _ => 0)), .inr (4, [.ref (an Z pre 4)]), .inl (zI Z, 4, .inl (fun _ => 0)), .inr (4, [.ref (an Z pre 6)]), .inl (zI Z, 16, .inl (fun _ => 0)), .inr (4, [.ref (an Z pre 8)]), .inl (zI Z, 4, .inl (fun _ => 0))] (n := 16) (by decide) (by decide)) mc_X4_init (Or.inl ml_0_11) rfl rfl (by rw [hz0]; simp only [List.length_append, List.length_cons, List.length_nil]; try omega) ⟨Nat.le_of_ble_eq_true rfl, Nat.le_of_ble_eq_true rfl⟩ rfl rfl (Nat.le_of_ble_eq_true rfl) (Nat.le_of_ble_eq_true rfl) rfl (Nat.le_of_ble_eq_true rfl) ?_
  show JN Z X 1 pre [.inr (0, [.ref (an Z pre 1), .ref (an Z pre 3), .ref (an Z pre 5), .ref (an Z pre 7), .null, .null, .null, .null, .null, .int 0, .int 0, .int 0]), .inr (4, [.ref (an Z pre 2)]), .inl (zI Z, 16, .inl (fun _ => 0)), .inr (4, [.ref (an Z pre 4)]), .inl (zI Z, 4, .inl (fun _ => 0)), .inr (4, [.ref (an Z pre 6)]), .inl (zI Z, 16, .inl (fun _ => 0)), .inr (4, [.ref (an Z pre 8)]), .inl (zI Z, 4, .inl (fun _ => 0)), .inr (4, [.ref (an Z pre 10)]), .inl (zI Z, 16, .inl (fun _ => 0))] 10 61 64 [some (.ref (an Z pre 0))] [.ref (an Z pre 9), .ref (an Z pre 0)]
  refine n_putF (j := 0) hX hin dX0_init_64 fi_0_29 rfl tyX0_ok nmX0 rfl rfl rfl rfl rfl (Nat.le_of_ble_eq_true rfl) ?_
  show JN Z X 1 pre [.inr (0, [.ref (an Z pre 1), .ref (an Z pre 3), .ref (an Z pre 5), .ref (an Z pre 7), .ref (an Z pre 9), .null, .null, .null, .null, .int 0, .int 0, .int 0]), .inr (4, [.ref (an Z pre 2)]), .inl (zI Z, 16, .inl (fun _ => 0)), .inr (4, [.ref (an Z pre 4)]), .inl (zI Z, 4, .inl (fun _ => 0)), .inr (4, [.ref (an Z pre 6)]), .inl (zI Z, 16, .inl (fun _ => 0)), .inr (4, [.ref (an Z pre 8)]), .inl (zI Z, 4, .inl (fun _ => 0)), .inr (4, [.ref (an Z pre 10)]), .inl (zI Z, 16, .inl (fun _ => 0))] 10 61 67 [some (.ref (an Z pre 0))] []
  refine n_aload_n hX dX0_init_67 rfl rfl ?_
  refine n_new (ci := 4) (ty := tyX4) (fs := [.null]) hX dX0_init_68 rfl us_4 tyX4_ok wc_0_9 wi_4 wn_4 df_4 (by rw [hz0]; simp only [List.length_append, List.length_cons, List.length_nil]; try omega) (Nat.le_of_ble_eq_true rfl) (Nat.le_of_ble_eq_true rfl) ?_
  show JN Z X 1 pre [.inr (0, [.ref (an Z pre 1), .ref (an Z pre 3), .ref (an Z pre 5), .ref (an Z pre 7), .ref (an Z pre 9), .null, .null, .null, .null, .int 0, .int 0, .int 0]), .inr (4, [.ref (an Z pre 2)]), .inl (zI Z, 16, .inl (fun _ => 0)), .inr (4, [.ref (an Z pre 4)]), .inl (zI Z, 4, .inl (fun _ => 0)), .inr (4, [.ref (an Z pre 6)]), .inl (zI Z, 16, .inl (fun _ => 0)), .inr (4, [.ref (an Z pre 8)]), .inl (zI Z, 4, .inl (fun _ => 0)), .inr (4, [.ref (an Z pre 10)]), .inl (zI Z, 16, .inl (fun _ => 0)), .inr (4, [.null])] 11 62 71 [some (.ref (an Z pre 0))] [.ref (an Z pre 11), .ref (an Z pre 0)]
  refine n_dup hX dX0_init_71 rfl ?_
  refine n_bipush hX dX0_init_72 bp_16 ?_
  refine n_callI (L0 := [.inr (0, [.ref (an Z pre 1), .ref (an Z pre 3), .ref (an Z pre 5), .ref (an Z pre 7), .ref (an Z pre 9), .null, .null, .null, .null, .int 0, .int 0, .int 0]), .inr (4, [.ref (an Z pre 2)]), .inl (zI Z, 16, .inl (fun _ => 0)), .inr (4, [.ref (an Z pre 4)]), .inl (zI Z, 4, .inl (fun _ => 0)), .inr (4, [.ref (an Z pre 6)]), .inl (zI Z, 16, .inl (fun _ => 0)), .inr (4, [.ref (an Z pre 8)]), .inl (zI Z, 4, .inl (fun _ => 0)), .inr (4, [.ref (an Z pre 10)]), .inl (zI Z, 16, .inl (fun _ => 0))]) (L1 := [.inr (4, [.null])]) (As := [.int 16]) hX dX0_init_74 (c_X4_init' pre [.inr (0, [.ref (an Z pre 1), .ref (an Z pre 3), .ref (an Z pre 5), .ref (an Z pre 7), .ref (an Z pre 9), .null, .null, .null, .null, .int 0, .int 0, .int 0]), .inr (4, [.ref (an Z pre 2)]), .inl (zI Z, 16, .inl (fun _ => 0)), .inr (4, [.ref (an Z pre 4)]), .inl (zI Z, 4, .inl (fun _ => 0)), .inr (4, [.ref (an Z pre 6)]), .inl (zI Z, 16, .inl (fun _ => 0)), .inr (4, [.ref (an Z pre 8)]), .inl (zI Z, 4, .inl (fun _ => 0)), .inr (4, [.ref (an Z pre 10)]), .inl (zI Z, 16, .inl (fun _ => 0))] (n := 16) (by decide) (by decide)) mc_X4_init (Or.inl ml_0_11) rfl rfl (by rw [hz0]; simp only [List.length_append, List.length_cons, List.length_nil]; try omega) ⟨Nat.le_of_ble_eq_true rfl, Nat.le_of_ble_eq_true rfl⟩ rfl rfl (Nat.le_of_ble_eq_true rfl) (Nat.le_of_ble_eq_true rfl) rfl (Nat.le_of_ble_eq_true rfl) ?_
  show JN Z X 1 pre [.inr (0, [.ref (an Z pre 1), .ref (an Z pre 3), .ref (an Z pre 5), .ref (an Z pre 7), .ref (an Z pre 9), .null, .null, .null, .null, .int 0, .int 0, .int 0]), .inr (4, [.ref (an Z pre 2)]), .inl (zI Z, 16, .inl (fun _ => 0)), .inr (4, [.ref (an Z pre 4)]), .inl (zI Z, 4, .inl (fun _ => 0)), .inr (4, [.ref (an Z pre 6)]), .inl (zI Z, 16, .inl (fun _ => 0)), .inr (4, [.ref (an Z pre 8)]), .inl (zI Z, 4, .inl (fun _ => 0)), .inr (4, [.ref (an Z pre 10)]), .inl (zI Z, 16, .inl (fun _ => 0)), .inr (4, [.ref (an Z pre 12)]), .inl (zI Z, 16, .inl (fun _ => 0))] 12 78 77 [some (.ref (an Z pre 0))] [.ref (an Z pre 11), .ref (an Z pre 0)]
  refine n_putF (j := 0) hX hin dX0_init_77 fi_0_32 rfl tyX0_ok nmX0 rfl rfl rfl rfl rfl (Nat.le_of_ble_eq_true rfl) ?_
  show JN Z X 1 pre [.inr (0, [.ref (an Z pre 1), .ref (an Z pre 3), .ref (an Z pre 5), .ref (an Z pre 7), .ref (an Z pre 9), .ref (an Z pre 11), .null, .null, .null, .int 0, .int 0, .int 0]), .inr (4, [.ref (an Z pre 2)]), .inl (zI Z, 16, .inl (fun _ => 0)), .inr (4, [.ref (an Z pre 4)]), .inl (zI Z, 4, .inl (fun _ => 0)), .inr (4, [.ref (an Z pre 6)]), .inl (zI Z, 16, .inl (fun _ => 0)), .inr (4, [.ref (an Z pre 8)]), .inl (zI Z, 4, .inl (fun _ => 0)), .inr (4, [.ref (an Z pre 10)]), .inl (zI Z, 16, .inl (fun _ => 0)), .inr (4, [.ref (an Z pre 12)]), .inl (zI Z, 16, .inl (fun _ => 0))] 12 78 80 [some (.ref (an Z pre 0))] []
  refine n_aload_n hX dX0_init_80 rfl rfl ?_
  refine n_new (ci := 4) (ty := tyX4) (fs := [.null]) hX dX0_init_81 rfl us_4 tyX4_ok wc_0_9 wi_4 wn_4 df_4 (by rw [hz0]; simp only [List.length_append, List.length_cons, List.length_nil]; try omega) (Nat.le_of_ble_eq_true rfl) (Nat.le_of_ble_eq_true rfl) ?_
  show JN Z X 1 pre [.inr (0, [.ref (an Z pre 1), .ref (an Z pre 3), .ref (an Z pre 5), .ref (an Z pre 7), .ref (an Z pre 9), .ref (an Z pre 11), .null, .null, .null, .int 0, .int 0, .int 0]), .inr (4, [.ref (an Z pre 2)]), .inl (zI Z, 16, .inl (fun _ => 0)), .inr (4, [.ref (an Z pre 4)]), .inl (zI Z, 4, .inl (fun _ => 0)), .inr (4, [.ref (an Z pre 6)]), .inl (zI Z, 16, .inl (fun _ => 0)), .inr (4, [.ref (an Z pre 8)]), .inl (zI Z, 4, .inl (fun _ => 0)), .inr (4, [.ref (an Z pre 10)]), .inl (zI Z, 16, .inl (fun _ => 0)), .inr (4, [.ref (an Z pre 12)]), .inl (zI Z, 16, .inl (fun _ => 0)), .inr (4, [.null])] 13 79 84 [some (.ref (an Z pre 0))] [.ref (an Z pre 13), .ref (an Z pre 0)]
  refine n_dup hX dX0_init_84 rfl ?_
  refine n_bipush hX dX0_init_85 bp_16 ?_
  refine n_callI (L0 := [.inr (0, [.ref (an Z pre 1), .ref (an Z pre 3), .ref (an Z pre 5), .ref (an Z pre 7), .ref (an Z pre 9), .ref (an Z pre 11), .null, .null, .null, .int 0, .int 0, .int 0]), .inr (4, [.ref (an Z pre 2)]), .inl (zI Z, 16, .inl (fun _ => 0)), .inr (4, [.ref (an Z pre 4)]), .inl (zI Z, 4, .inl (fun _ => 0)), .inr (4, [.ref (an Z pre 6)]), .inl (zI Z, 16, .inl (fun _ => 0)), .inr (4, [.ref (an Z pre 8)]), .inl (zI Z, 4, .inl (fun _ => 0)), .inr (4, [.ref (an Z pre 10)]), .inl (zI Z, 16, .inl (fun _ => 0)), .inr (4, [.ref (an Z pre 12)]), .inl (zI Z, 16, .inl (fun _ => 0))]) (L1 := [.inr (4, [.null])]) (As := [.int 16]) hX dX0_init_87 (c_X4_init' pre [.inr (0, [.ref (an Z pre 1), .ref (an Z pre 3), .ref (an Z pre 5), .ref (an Z pre 7), .ref (an Z pre 9), .ref (an Z pre 11), .null, .null, .null, .int 0, .int 0, .int 0]), .inr (4, [.ref (an Z pre 2)]), .inl (zI Z, 16, .inl (fun _ => 0)), .inr (4, [.ref (an Z pre 4)]), .inl (zI Z, 4, .inl (fun _ => 0)), .inr (4, [.ref (an Z pre 6)]), .inl (zI Z, 16, .inl (fun _ => 0)), .inr (4, [.ref (an Z pre 8)]), .inl (zI Z, 4, .inl (fun _ => 0)), .inr (4, [.ref (an Z pre 10)]), .inl (zI Z, 16, .inl (fun _ => 0)), .inr (4, [.ref (an Z pre 12)]), .inl (zI Z, 16, .inl (fun _ => 0))] (n := 16) (by decide) (by decide)) mc_X4_init (Or.inl ml_0_11) rfl rfl (by rw [hz0]; simp only [List.length_append, List.length_cons, List.length_nil]; try omega) ⟨Nat.le_of_ble_eq_true rfl, Nat.le_of_ble_eq_true rfl⟩ rfl rfl (Nat.le_of_ble_eq_true rfl) (Nat.le_of_ble_eq_true rfl) rfl (Nat.le_of_ble_eq_true rfl) ?_
  show JN Z X 1 pre [.inr (0, [.ref (an Z pre 1), .ref (an Z pre 3), .ref (an Z pre 5), .ref (an Z pre 7), .ref (an Z pre 9), .ref (an Z pre 11), .null, .null, .null, .int 0, .int 0, .int 0]), .inr (4, [.ref (an Z pre 2)]), .inl (zI Z, 16, .inl (fun _ => 0)), .inr (4, [.ref (an Z pre 4)]), .inl (zI Z, 4, .inl (fun _ => 0)), .inr (4, [.ref (an Z pre 6)]), .inl (zI Z, 16, .inl (fun _ => 0)), .inr (4, [.ref (an Z pre 8)]), .inl (zI Z, 4, .inl (fun _ => 0)), .inr (4, [.ref (an Z pre 10)]), .inl (zI Z, 16, .inl (fun _ => 0)), .inr (4, [.ref (an Z pre 12)]), .inl (zI Z, 16, .inl (fun _ => 0)), .inr (4, [.ref (an Z pre 14)]), .inl (zI Z, 16, .inl (fun _ => 0))] 14 95 90 [some (.ref (an Z pre 0))] [.ref (an Z pre 13), .ref (an Z pre 0)]
  refine n_putF (j := 0) hX hin dX0_init_90 fi_0_35 rfl tyX0_ok nmX0 rfl rfl rfl rfl rfl (Nat.le_of_ble_eq_true rfl) ?_
  show JN Z X 1 pre [.inr (0, [.ref (an Z pre 1), .ref (an Z pre 3), .ref (an Z pre 5), .ref (an Z pre 7), .ref (an Z pre 9), .ref (an Z pre 11), .ref (an Z pre 13), .null, .null, .int 0, .int 0, .int 0]), .inr (4, [.ref (an Z pre 2)]), .inl (zI Z, 16, .inl (fun _ => 0)), .inr (4, [.ref (an Z pre 4)]), .inl (zI Z, 4, .inl (fun _ => 0)), .inr (4, [.ref (an Z pre 6)]), .inl (zI Z, 16, .inl (fun _ => 0)), .inr (4, [.ref (an Z pre 8)]), .inl (zI Z, 4, .inl (fun _ => 0)), .inr (4, [.ref (an Z pre 10)]), .inl (zI Z, 16, .inl (fun _ => 0)), .inr (4, [.ref (an Z pre 12)]), .inl (zI Z, 16, .inl (fun _ => 0)), .inr (4, [.ref (an Z pre 14)]), .inl (zI Z, 16, .inl (fun _ => 0))] 14 95 93 [some (.ref (an Z pre 0))] []
  refine n_aload_n hX dX0_init_93 rfl rfl ?_
  refine n_new (ci := 4) (ty := tyX4) (fs := [.null]) hX dX0_init_94 rfl us_4 tyX4_ok wc_0_9 wi_4 wn_4 df_4 (by rw [hz0]; simp only [List.length_append, List.length_cons, List.length_nil]; try omega) (Nat.le_of_ble_eq_true rfl) (Nat.le_of_ble_eq_true rfl) ?_
  show JN Z X 1 pre [.inr (0, [.ref (an Z pre 1), .ref (an Z pre 3), .ref (an Z pre 5), .ref (an Z pre 7), .ref (an Z pre 9), .ref (an Z pre 11), .ref (an Z pre 13), .null, .null, .int 0, .int 0, .int 0]), .inr (4, [.ref (an Z pre 2)]), .inl (zI Z, 16, .inl (fun _ => 0)), .inr (4, [.ref (an Z pre 4)]), .inl (zI Z, 4, .inl (fun _ => 0)), .inr (4, [.ref (an Z pre 6)]), .inl (zI Z, 16, .inl (fun _ => 0)), .inr (4, [.ref (an Z pre 8)]), .inl (zI Z, 4, .inl (fun _ => 0)), .inr (4, [.ref (an Z pre 10)]), .inl (zI Z, 16, .inl (fun _ => 0)), .inr (4, [.ref (an Z pre 12)]), .inl (zI Z, 16, .inl (fun _ => 0)), .inr (4, [.ref (an Z pre 14)]), .inl (zI Z, 16, .inl (fun _ => 0)), .inr (4, [.null])] 15 96 97 [some (.ref (an Z pre 0))] [.ref (an Z pre 15), .ref (an Z pre 0)]
  refine n_dup hX dX0_init_97 rfl ?_
  refine n_bipush hX dX0_init_98 bp_16 ?_
  refine n_callI (L0 := [.inr (0, [.ref (an Z pre 1), .ref (an Z pre 3), .ref (an Z pre 5), .ref (an Z pre 7), .ref (an Z pre 9), .ref (an Z pre 11), .ref (an Z pre 13), .null, .null, .int 0, .int 0, .int 0]), .inr (4, [.ref (an Z pre 2)]), .inl (zI Z, 16, .inl (fun _ => 0)), .inr (4, [.ref (an Z pre 4)]), .inl (zI Z, 4, .inl (fun _ => 0)), .inr (4, [.ref (an Z pre 6)]), .inl (zI Z, 16, .inl (fun _ => 0)), .inr (4, [.ref (an Z pre 8)]), .inl (zI Z, 4, .inl (fun _ => 0)), .inr (4, [.ref (an Z pre 10)]), .inl (zI Z, 16, .inl (fun _ => 0)), .inr (4, [.ref (an Z pre 12)]), .inl (zI Z, 16, .inl (fun _ => 0)), .inr (4, [.ref (an Z pre 14)]), .inl (zI Z, 16, .inl (fun _ => 0))]) (L1 := [.inr (4, [.null])]) (As := [.int 16]) hX dX0_init_100 (c_X4_init' pre [.inr (0, [.ref (an Z pre 1), .ref (an Z pre 3), .ref (an Z pre 5), .ref (an Z pre 7), .ref (an Z pre 9), .ref (an Z pre 11), .ref (an Z pre 13), .null, .null, .int 0, .int 0, .int 0]), .inr (4, [.ref (an Z pre 2)]), .inl (zI Z, 16, .inl (fun _ => 0)), .inr (4, [.ref (an Z pre 4)]), .inl (zI Z, 4, .inl (fun _ => 0)), .inr (4, [.ref (an Z pre 6)]), .inl (zI Z, 16, .inl (fun _ => 0)), .inr (4, [.ref (an Z pre 8)]), .inl (zI Z, 4, .inl (fun _ => 0)), .inr (4, [.ref (an Z pre 10)]), .inl (zI Z, 16, .inl (fun _ => 0)), .inr (4, [.ref (an Z pre 12)]), .inl (zI Z, 16, .inl (fun _ => 0)), .inr (4, [.ref (an Z pre 14)]), .inl (zI Z, 16, .inl (fun _ => 0))] (n := 16) (by decide) (by decide)) mc_X4_init (Or.inl ml_0_11) rfl rfl (by rw [hz0]; simp only [List.length_append, List.length_cons, List.length_nil]; try omega) ⟨Nat.le_of_ble_eq_true rfl, Nat.le_of_ble_eq_true rfl⟩ rfl rfl (Nat.le_of_ble_eq_true rfl) (Nat.le_of_ble_eq_true rfl) rfl (Nat.le_of_ble_eq_true rfl) ?_
  show JN Z X 1 pre [.inr (0, [.ref (an Z pre 1), .ref (an Z pre 3), .ref (an Z pre 5), .ref (an Z pre 7), .ref (an Z pre 9), .ref (an Z pre 11), .ref (an Z pre 13), .null, .null, .int 0, .int 0, .int 0]), .inr (4, [.ref (an Z pre 2)]), .inl (zI Z, 16, .inl (fun _ => 0)), .inr (4, [.ref (an Z pre 4)]), .inl (zI Z, 4, .inl (fun _ => 0)), .inr (4, [.ref (an Z pre 6)]), .inl (zI Z, 16, .inl (fun _ => 0)), .inr (4, [.ref (an Z pre 8)]), .inl (zI Z, 4, .inl (fun _ => 0)), .inr (4, [.ref (an Z pre 10)]), .inl (zI Z, 16, .inl (fun _ => 0)), .inr (4, [.ref (an Z pre 12)]), .inl (zI Z, 16, .inl (fun _ => 0)), .inr (4, [.ref (an Z pre 14)]), .inl (zI Z, 16, .inl (fun _ => 0)), .inr (4, [.ref (an Z pre 16)]), .inl (zI Z, 16, .inl (fun _ => 0))] 16 112 103 [some (.ref (an Z pre 0))] [.ref (an Z pre 15), .ref (an Z pre 0)]
  refine n_putF (j := 0) hX hin dX0_init_103 fi_0_38 rfl tyX0_ok nmX0 rfl rfl rfl rfl rfl (Nat.le_of_ble_eq_true rfl) ?_
  show JN Z X 1 pre [.inr (0, [.ref (an Z pre 1), .ref (an Z pre 3), .ref (an Z pre 5), .ref (an Z pre 7), .ref (an Z pre 9), .ref (an Z pre 11), .ref (an Z pre 13), .ref (an Z pre 15), .null, .int 0, .int 0, .int 0]), .inr (4, [.ref (an Z pre 2)]), .inl (zI Z, 16, .inl (fun _ => 0)), .inr (4, [.ref (an Z pre 4)]), .inl (zI Z, 4, .inl (fun _ => 0)), .inr (4, [.ref (an Z pre 6)]), .inl (zI Z, 16, .inl (fun _ => 0)), .inr (4, [.ref (an Z pre 8)]), .inl (zI Z, 4, .inl (fun _ => 0)), .inr (4, [.ref (an Z pre 10)]), .inl (zI Z, 16, .inl (fun _ => 0)), .inr (4, [.ref (an Z pre 12)]), .inl (zI Z, 16, .inl (fun _ => 0)), .inr (4, [.ref (an Z pre 14)]), .inl (zI Z, 16, .inl (fun _ => 0)), .inr (4, [.ref (an Z pre 16)]), .inl (zI Z, 16, .inl (fun _ => 0))] 16 112 106 [some (.ref (an Z pre 0))] []
  refine n_aload_n hX dX0_init_106 rfl rfl ?_
  refine n_new (ci := 5) (ty := tyX5) (fs := [.null, .null]) hX dX0_init_107 rfl us_5 tyX5_ok wc_0_41 wi_5 wn_5 df_5 (by rw [hz0]; simp only [List.length_append, List.length_cons, List.length_nil]; try omega) (Nat.le_of_ble_eq_true rfl) (Nat.le_of_ble_eq_true rfl) ?_
  show JN Z X 1 pre [.inr (0, [.ref (an Z pre 1), .ref (an Z pre 3), .ref (an Z pre 5), .ref (an Z pre 7), .ref (an Z pre 9), .ref (an Z pre 11), .ref (an Z pre 13), .ref (an Z pre 15), .null, .int 0, .int 0, .int 0]), .inr (4, [.ref (an Z pre 2)]), .inl (zI Z, 16, .inl (fun _ => 0)), .inr (4, [.ref (an Z pre 4)]), .inl (zI Z, 4, .inl (fun _ => 0)), .inr (4, [.ref (an Z pre 6)]), .inl (zI Z, 16, .inl (fun _ => 0)), .inr (4, [.ref (an Z pre 8)]), .inl (zI Z, 4, .inl (fun _ => 0)), .inr (4, [.ref (an Z pre 10)]), .inl (zI Z, 16, .inl (fun _ => 0)), .inr (4, [.ref (an Z pre 12)]), .inl (zI Z, 16, .inl (fun _ => 0)), .inr (4, [.ref (an Z pre 14)]), .inl (zI Z, 16, .inl (fun _ => 0)), .inr (4, [.ref (an Z pre 16)]), .inl (zI Z, 16, .inl (fun _ => 0)), .inr (5, [.null, .null])] 17 114 110 [some (.ref (an Z pre 0))] [.ref (an Z pre 17), .ref (an Z pre 0)]
  refine n_dup hX dX0_init_110 rfl ?_
  refine n_callI (L0 := [.inr (0, [.ref (an Z pre 1), .ref (an Z pre 3), .ref (an Z pre 5), .ref (an Z pre 7), .ref (an Z pre 9), .ref (an Z pre 11), .ref (an Z pre 13), .ref (an Z pre 15), .null, .int 0, .int 0, .int 0]), .inr (4, [.ref (an Z pre 2)]), .inl (zI Z, 16, .inl (fun _ => 0)), .inr (4, [.ref (an Z pre 4)]), .inl (zI Z, 4, .inl (fun _ => 0)), .inr (4, [.ref (an Z pre 6)]), .inl (zI Z, 16, .inl (fun _ => 0)), .inr (4, [.ref (an Z pre 8)]), .inl (zI Z, 4, .inl (fun _ => 0)), .inr (4, [.ref (an Z pre 10)]), .inl (zI Z, 16, .inl (fun _ => 0)), .inr (4, [.ref (an Z pre 12)]), .inl (zI Z, 16, .inl (fun _ => 0)), .inr (4, [.ref (an Z pre 14)]), .inl (zI Z, 16, .inl (fun _ => 0)), .inr (4, [.ref (an Z pre 16)]), .inl (zI Z, 16, .inl (fun _ => 0))]) (L1 := [.inr (5, [.null, .null])]) (As := []) hX dX0_init_111 (c_X5_init' pre [.inr (0, [.ref (an Z pre 1), .ref (an Z pre 3), .ref (an Z pre 5), .ref (an Z pre 7), .ref (an Z pre 9), .ref (an Z pre 11), .ref (an Z pre 13), .ref (an Z pre 15), .null, .int 0, .int 0, .int 0]), .inr (4, [.ref (an Z pre 2)]), .inl (zI Z, 16, .inl (fun _ => 0)), .inr (4, [.ref (an Z pre 4)]), .inl (zI Z, 4, .inl (fun _ => 0)), .inr (4, [.ref (an Z pre 6)]), .inl (zI Z, 16, .inl (fun _ => 0)), .inr (4, [.ref (an Z pre 8)]), .inl (zI Z, 4, .inl (fun _ => 0)), .inr (4, [.ref (an Z pre 10)]), .inl (zI Z, 16, .inl (fun _ => 0)), .inr (4, [.ref (an Z pre 12)]), .inl (zI Z, 16, .inl (fun _ => 0)), .inr (4, [.ref (an Z pre 14)]), .inl (zI Z, 16, .inl (fun _ => 0)), .inr (4, [.ref (an Z pre 16)]), .inl (zI Z, 16, .inl (fun _ => 0))]) mc_X5_init (Or.inr ⟨_, hX.2.2.1⟩) rfl rfl (by rw [hz0]; simp only [List.length_append, List.length_cons, List.length_nil]; try omega) ⟨Nat.le_of_ble_eq_true rfl, Nat.le_of_ble_eq_true rfl⟩ rfl rfl (Nat.le_of_ble_eq_true rfl) (Nat.le_of_ble_eq_true rfl) rfl (Nat.le_of_ble_eq_true rfl) ?_
  show JN Z X 1 pre [.inr (0, [.ref (an Z pre 1), .ref (an Z pre 3), .ref (an Z pre 5), .ref (an Z pre 7), .ref (an Z pre 9), .ref (an Z pre 11), .ref (an Z pre 13), .ref (an Z pre 15), .null, .int 0, .int 0, .int 0]), .inr (4, [.ref (an Z pre 2)]), .inl (zI Z, 16, .inl (fun _ => 0)), .inr (4, [.ref (an Z pre 4)]), .inl (zI Z, 4, .inl (fun _ => 0)), .inr (4, [.ref (an Z pre 6)]), .inl (zI Z, 16, .inl (fun _ => 0)), .inr (4, [.ref (an Z pre 8)]), .inl (zI Z, 4, .inl (fun _ => 0)), .inr (4, [.ref (an Z pre 10)]), .inl (zI Z, 16, .inl (fun _ => 0)), .inr (4, [.ref (an Z pre 12)]), .inl (zI Z, 16, .inl (fun _ => 0)), .inr (4, [.ref (an Z pre 14)]), .inl (zI Z, 16, .inl (fun _ => 0)), .inr (4, [.ref (an Z pre 16)]), .inl (zI Z, 16, .inl (fun _ => 0)), .inr (5, [.ref (an Z pre 18), .ref (an Z pre 19)]), .inl (zI Z, 16, .inl (fun _ => 0)), .inr (4, [.ref (an Z pre 20)]), .inl (zI Z, 4, .inl (fun _ => 0))] 20 135 114 [some (.ref (an Z pre 0))] [.ref (an Z pre 17), .ref (an Z pre 0)]
  refine n_putF (j := 0) hX hin dX0_init_114 fi_0_44 rfl tyX0_ok nmX0 rfl rfl rfl rfl rfl (Nat.le_of_ble_eq_true rfl) ?_
  show JN Z X 1 pre [.inr (0, [.ref (an Z pre 1), .ref (an Z pre 3), .ref (an Z pre 5), .ref (an Z pre 7), .ref (an Z pre 9), .ref (an Z pre 11), .ref (an Z pre 13), .ref (an Z pre 15), .ref (an Z pre 17), .int 0, .int 0, .int 0]), .inr (4, [.ref (an Z pre 2)]), .inl (zI Z, 16, .inl (fun _ => 0)), .inr (4, [.ref (an Z pre 4)]), .inl (zI Z, 4, .inl (fun _ => 0)), .inr (4, [.ref (an Z pre 6)]), .inl (zI Z, 16, .inl (fun _ => 0)), .inr (4, [.ref (an Z pre 8)]), .inl (zI Z, 4, .inl (fun _ => 0)), .inr (4, [.ref (an Z pre 10)]), .inl (zI Z, 16, .inl (fun _ => 0)), .inr (4, [.ref (an Z pre 12)]), .inl (zI Z, 16, .inl (fun _ => 0)), .inr (4, [.ref (an Z pre 14)]), .inl (zI Z, 16, .inl (fun _ => 0)), .inr (4, [.ref (an Z pre 16)]), .inl (zI Z, 16, .inl (fun _ => 0)), .inr (5, [.ref (an Z pre 18), .ref (an Z pre 19)]), .inl (zI Z, 16, .inl (fun _ => 0)), .inr (4, [.ref (an Z pre 20)]), .inl (zI Z, 4, .inl (fun _ => 0))] 20 135 117 [some (.ref (an Z pre 0))] []
  refine n_aload_n hX dX0_init_117 rfl rfl ?_
  refine n_iconst hX dX0_init_118 ic_0 ?_
  refine n_put (j := 0) hX dX0_init_119 fi_0_48 rfl tyX0_ok nmX0 rfl rfl rfl rfl (Nat.le_of_ble_eq_true rfl) ?_
  show JN Z X 1 pre [.inr (0, [.ref (an Z pre 1), .ref (an Z pre 3), .ref (an Z pre 5), .ref (an Z pre 7), .ref (an Z pre 9), .ref (an Z pre 11), .ref (an Z pre 13), .ref (an Z pre 15), .ref (an Z pre 17), .int 0, .int 0, .int 0]), .inr (4, [.ref (an Z pre 2)]), .inl (zI Z, 16, .inl (fun _ => 0)), .inr (4, [.ref (an Z pre 4)]), .inl (zI Z, 4, .inl (fun _ => 0)), .inr (4, [.ref (an Z pre 6)]), .inl (zI Z, 16, .inl (fun _ => 0)), .inr (4, [.ref (an Z pre 8)]), .inl (zI Z, 4, .inl (fun _ => 0)), .inr (4, [.ref (an Z pre 10)]), .inl (zI Z, 16, .inl (fun _ => 0)), .inr (4, [.ref (an Z pre 12)]), .inl (zI Z, 16, .inl (fun _ => 0)), .inr (4, [.ref (an Z pre 14)]), .inl (zI Z, 16, .inl (fun _ => 0)), .inr (4, [.ref (an Z pre 16)]), .inl (zI Z, 16, .inl (fun _ => 0)), .inr (5, [.ref (an Z pre 18), .ref (an Z pre 19)]), .inl (zI Z, 16, .inl (fun _ => 0)), .inr (4, [.ref (an Z pre 20)]), .inl (zI Z, 4, .inl (fun _ => 0))] 20 135 122 [some (.ref (an Z pre 0))] []
  refine n_aload_n hX dX0_init_122 rfl rfl ?_
  refine n_iconst hX dX0_init_123 ic_0 ?_
  refine n_put (j := 0) hX dX0_init_124 fi_0_52 rfl tyX0_ok nmX0 rfl rfl rfl rfl (Nat.le_of_ble_eq_true rfl) ?_
  show JN Z X 1 pre [.inr (0, [.ref (an Z pre 1), .ref (an Z pre 3), .ref (an Z pre 5), .ref (an Z pre 7), .ref (an Z pre 9), .ref (an Z pre 11), .ref (an Z pre 13), .ref (an Z pre 15), .ref (an Z pre 17), .int 0, .int 0, .int 0]), .inr (4, [.ref (an Z pre 2)]), .inl (zI Z, 16, .inl (fun _ => 0)), .inr (4, [.ref (an Z pre 4)]), .inl (zI Z, 4, .inl (fun _ => 0)), .inr (4, [.ref (an Z pre 6)]), .inl (zI Z, 16, .inl (fun _ => 0)), .inr (4, [.ref (an Z pre 8)]), .inl (zI Z, 4, .inl (fun _ => 0)), .inr (4, [.ref (an Z pre 10)]), .inl (zI Z, 16, .inl (fun _ => 0)), .inr (4, [.ref (an Z pre 12)]), .inl (zI Z, 16, .inl (fun _ => 0)), .inr (4, [.ref (an Z pre 14)]), .inl (zI Z, 16, .inl (fun _ => 0)), .inr (4, [.ref (an Z pre 16)]), .inl (zI Z, 16, .inl (fun _ => 0)), .inr (5, [.ref (an Z pre 18), .ref (an Z pre 19)]), .inl (zI Z, 16, .inl (fun _ => 0)), .inr (4, [.ref (an Z pre 20)]), .inl (zI Z, 4, .inl (fun _ => 0))] 20 135 127 [some (.ref (an Z pre 0))] []
  refine n_aload_n hX dX0_init_127 rfl rfl ?_
  refine n_iconst hX dX0_init_128 ic_0 ?_
  refine n_put (j := 0) hX dX0_init_129 fi_0_55 rfl tyX0_ok nmX0 rfl rfl rfl rfl (Nat.le_of_ble_eq_true rfl) ?_
  show JN Z X 1 pre [.inr (0, [.ref (an Z pre 1), .ref (an Z pre 3), .ref (an Z pre 5), .ref (an Z pre 7), .ref (an Z pre 9), .ref (an Z pre 11), .ref (an Z pre 13), .ref (an Z pre 15), .ref (an Z pre 17), .int 0, .int 0, .int 0]), .inr (4, [.ref (an Z pre 2)]), .inl (zI Z, 16, .inl (fun _ => 0)), .inr (4, [.ref (an Z pre 4)]), .inl (zI Z, 4, .inl (fun _ => 0)), .inr (4, [.ref (an Z pre 6)]), .inl (zI Z, 16, .inl (fun _ => 0)), .inr (4, [.ref (an Z pre 8)]), .inl (zI Z, 4, .inl (fun _ => 0)), .inr (4, [.ref (an Z pre 10)]), .inl (zI Z, 16, .inl (fun _ => 0)), .inr (4, [.ref (an Z pre 12)]), .inl (zI Z, 16, .inl (fun _ => 0)), .inr (4, [.ref (an Z pre 14)]), .inl (zI Z, 16, .inl (fun _ => 0)), .inr (4, [.ref (an Z pre 16)]), .inl (zI Z, 16, .inl (fun _ => 0)), .inr (5, [.ref (an Z pre 18), .ref (an Z pre 19)]), .inl (zI Z, 16, .inl (fun _ => 0)), .inr (4, [.ref (an Z pre 20)]), .inl (zI Z, 4, .inl (fun _ => 0))] 20 135 132 [some (.ref (an Z pre 0))] []
  exact n_vret hX hF dX0_init_132 rfl rfl rfl
theorem c_X0_init' {Z : ZC} (pre L0 : List va_E) : CtN Z yX0_init cX0_init 1 rm_X0_init [.ref (an Z pre L0.length)] ((pre ++ L0) ++ [.inr (0, [.null, .null, .null, .null, .null, .null, .null, .null, .null, .int 0, .int 0, .int 0])]) (pre ++ (L0 ++ [.inr (0, [.ref (an Z pre (L0.length + 1)), .ref (an Z pre (L0.length + 3)), .ref (an Z pre (L0.length + 5)), .ref (an Z pre (L0.length + 7)), .ref (an Z pre (L0.length + 9)), .ref (an Z pre (L0.length + 11)), .ref (an Z pre (L0.length + 13)), .ref (an Z pre (L0.length + 15)), .ref (an Z pre (L0.length + 17)), .int 0, .int 0, .int 0]), .inr (4, [.ref (an Z pre (L0.length + 2))]), .inl (zI Z, 16, .inl (fun _ => 0)), .inr (4, [.ref (an Z pre (L0.length + 4))]), .inl (zI Z, 4, .inl (fun _ => 0)), .inr (4, [.ref (an Z pre (L0.length + 6))]), .inl (zI Z, 16, .inl (fun _ => 0)), .inr (4, [.ref (an Z pre (L0.length + 8))]), .inl (zI Z, 4, .inl (fun _ => 0)), .inr (4, [.ref (an Z pre (L0.length + 10))]), .inl (zI Z, 16, .inl (fun _ => 0)), .inr (4, [.ref (an Z pre (L0.length + 12))]), .inl (zI Z, 16, .inl (fun _ => 0)), .inr (4, [.ref (an Z pre (L0.length + 14))]), .inl (zI Z, 16, .inl (fun _ => 0)), .inr (4, [.ref (an Z pre (L0.length + 16))]), .inl (zI Z, 16, .inl (fun _ => 0)), .inr (5, [.ref (an Z pre (L0.length + 18)), .ref (an Z pre (L0.length + 19))]), .inl (zI Z, 16, .inl (fun _ => 0)), .inr (4, [.ref (an Z pre (L0.length + 20))]), .inl (zI Z, 4, .inl (fun _ => 0))])) 20 135 := by
  have h := c_X0_init (Z := Z) (pre := pre ++ L0)
  simp only [an_app, Nat.add_zero] at h
  rw [← List.append_assoc pre L0 [.inr (0, [.ref (an Z pre (L0.length + 1)), .ref (an Z pre (L0.length + 3)), .ref (an Z pre (L0.length + 5)), .ref (an Z pre (L0.length + 7)), .ref (an Z pre (L0.length + 9)), .ref (an Z pre (L0.length + 11)), .ref (an Z pre (L0.length + 13)), .ref (an Z pre (L0.length + 15)), .ref (an Z pre (L0.length + 17)), .int 0, .int 0, .int 0]), .inr (4, [.ref (an Z pre (L0.length + 2))]), .inl (zI Z, 16, .inl (fun _ => 0)), .inr (4, [.ref (an Z pre (L0.length + 4))]), .inl (zI Z, 4, .inl (fun _ => 0)), .inr (4, [.ref (an Z pre (L0.length + 6))]), .inl (zI Z, 16, .inl (fun _ => 0)), .inr (4, [.ref (an Z pre (L0.length + 8))]), .inl (zI Z, 4, .inl (fun _ => 0)), .inr (4, [.ref (an Z pre (L0.length + 10))]), .inl (zI Z, 16, .inl (fun _ => 0)), .inr (4, [.ref (an Z pre (L0.length + 12))]), .inl (zI Z, 16, .inl (fun _ => 0)), .inr (4, [.ref (an Z pre (L0.length + 14))]), .inl (zI Z, 16, .inl (fun _ => 0)), .inr (4, [.ref (an Z pre (L0.length + 16))]), .inl (zI Z, 16, .inl (fun _ => 0)), .inr (5, [.ref (an Z pre (L0.length + 18)), .ref (an Z pre (L0.length + 19))]), .inl (zI Z, 16, .inl (fun _ => 0)), .inr (4, [.ref (an Z pre (L0.length + 20))]), .inl (zI Z, 4, .inl (fun _ => 0))]]
  exact h
def offI : Nat → Int32 := upd (upd (upd (upd (upd (upd (upd (upd (fun _ => 0) (148 + 0 : Int32).toNatClampNeg (-9)) (152 + 0 : Int32).toNatClampNeg 0) (148 + (0 + 1) : Int32).toNatClampNeg (-9)) (152 + (0 + 1) : Int32).toNatClampNeg (0 + 1)) (148 + ((0 + 1) + 1) : Int32).toNatClampNeg (-9)) (152 + ((0 + 1) + 1) : Int32).toNatClampNeg ((0 + 1) + 1)) (148 + (((0 + 1) + 1) + 1) : Int32).toNatClampNeg (-9)) (152 + (((0 + 1) + 1) + 1) : Int32).toNatClampNeg (((0 + 1) + 1) + 1)
theorem c_X3_initO {Z : ZC} (pre L0 : List va_E) : CtN Z yX3_init cX3_init 2 rm_X3_init [.ref (an Z pre L0.length)] ((pre ++ L0) ++ [.inr (3, [.null])]) (pre ++ (L0 ++ [.inr (3, [.ref (an Z pre (L0.length + 1))]), .inl (zI Z, 159, .inl offI)])) 1 159 := c_X3_init' pre L0
