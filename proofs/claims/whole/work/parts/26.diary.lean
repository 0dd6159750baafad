def f_X2_size (cm : CM) : Option (Int32) :=
  some (cm 2 0 2)

abbrev rm_X2_size : Room := { frames := 0, cells := 0, slots := 0, locals := 0 }
set_option maxHeartbeats 2000000 in
set_option maxRecDepth 20000 in
theorem c_X2_size {Z : ZC} {cm : CM} {mm : MM} {lm : LM} {r : Int32}  (h : f_X2_size cm = some r) : Ct Z yX2_size cX2_size 1 (some .int) rm_X2_size [.ref (ad Z 2 0)] cm mm lm (some (.int r)) cm mm lm := by
  refine Ct_of (own := RX2) [some (.ref (ad Z 2 0))] ⟨by decide, rfl⟩ rfl (Nat.le_of_ble_eq_true rfl) rfl (fun X hX hF => ?_)
  have g : G (fun r : Int32 => Fx Z X (some .int) (some (.int r)) cm mm lm) (f_X2_size cm) (J Z X 1 cm mm lm 0 [some (.ref (ad Z 2 0))] []) := by
    unfold f_X2_size
    refine g_aload_n hX dX2_size_0 rfl rfl ?_
    refine g_get hX fi_2_21 p2_0 e2_0 rfl dX2_size_1 ?_
    exact g_iret hX (fun h => h) dX2_size_4
  exact g r h hF

def f_X2_keep (cm : CM) (o : Nat) : Option (CM) :=
  (f_X2_pageAt (cm 2 0 1)).bind fun r5 => match r5 with
  | none =>
    some cm
  | some i5 =>
    (f_X3_copyFrom cm (3 + i5) o).bind fun r15 =>
    ((if (r15 2 0 1) = 23 then
        some 0
      else
        some ((r15 2 0 1) + 1)) : Option (Int32)).bind fun k38_0 =>
    some (u3 (u3 r15 2 0 (upd (r15 2 0) 1 k38_0)) 2 0 (upd ((u3 r15 2 0 (upd (r15 2 0) 1 k38_0)) 2 0) 2 (if 24 < (((u3 r15 2 0 (upd (r15 2 0) 1 k38_0)) 2 0 2) + 1) then 24 else (((u3 r15 2 0 (upd (r15 2 0) 1 k38_0)) 2 0 2) + 1))))

abbrev rm_X2_keep : Room := { frames := 2, cells := 0, slots := 0, locals := 61 }
set_option maxHeartbeats 2000000 in
set_option maxRecDepth 20000 in
theorem c_X2_keep {Z : ZC} {cm : CM} {mm : MM} {lm : LM} {o : Nat} {r : CM} (hO : isOf o) (h : f_X2_keep cm o = some r) : Ct Z yX2_keep cX2_keep 3 none rm_X2_keep [.ref (ad Z 2 0), .ref (ad Z o 0)] cm mm lm none r mm lm := by
  refine Ct_of (own := RX2) [some (.ref (ad Z 2 0)), some (.ref (ad Z o 0)), none] ⟨by decide, rfl⟩ rfl (Nat.le_of_ble_eq_true rfl) rfl (fun X hX hF => ?_)
  have g : G (fun r : CM => Fx Z X none none r mm lm) (f_X2_keep cm o) (J Z X 3 cm mm lm 0 [some (.ref (ad Z 2 0)), some (.ref (ad Z o 0)), none] []) := by
    unfold f_X2_keep
    refine g_aload_n hX dX2_keep_0 rfl rfl ?_
    refine g_aload_n hX dX2_keep_1 rfl rfl ?_
    refine g_get hX fi_2_17 p2_0 e2_0 rfl dX2_keep_2 ?_
    refine g_callV hX (As := [.int (cm 2 0 1)]) (fun r => some (pgv Z r)) (fun _ => cm) (fun _ => mm) (fun _ => lm) (fun r hr => c_X2_pageAt hr) mi_X2_pageAt ml_2_25 p2_0 e2_0 rfl rfl rfl rfl rfl (Nat.le_of_ble_eq_true rfl) dX2_keep_5 ?_
    intro r5 hr5
    rcases r5 with _ | i5
    · show G _ _ (J Z X 3 cm mm lm 8 [some (.ref (ad Z 2 0)), some (.ref (ad Z o 0)), none] [.null])
      refine g_astore_nN hX dX2_keep_8 rfl (Nat.le_of_ble_eq_true rfl) rfl ?_
      refine g_aload_nN hX dX2_keep_9 rfl rfl ?_
      refine g_ifnul hX dX2_keep_10 ?_
      exact g_vret hX (fun h => h) dX2_keep_56
    · have hi5 := pg_lt hr5
      show G _ _ (J Z X 3 cm mm lm 8 [some (.ref (ad Z 2 0)), some (.ref (ad Z o 0)), none] [.ref (ad Z (3 + i5) 0)])
      refine g_astore_n hX dX2_keep_8 rfl (Nat.le_of_ble_eq_true rfl) rfl ?_
      refine g_aload_n hX dX2_keep_9 rfl rfl ?_
      refine g_ifref hX ⟨dX2_keep_10.1, dX2_keep_10.2.1⟩ ?_
      refine g_aload_n hX dX2_keep_13 rfl rfl ?_
      refine g_aload_n hX dX2_keep_14 rfl rfl ?_
      refine g_callV hX (As := [.ref (ad Z o 0)]) (fun _ => none) (fun r => r) (fun _ => mm) (fun _ => lm) (fun r hr => c_X3_copyFrom (isOfP i5 hi5) hO hr) mi_X3_copyFrom ml_2_29 (okO (isOfP i5 hi5) (by decide)) (e3_0 (isOfP i5 hi5)) rfl rfl rfl rfl rfl (Nat.le_of_ble_eq_true rfl) dX2_keep_15 ?_
      intro r15 hr15
      refine g_aload_n hX dX2_keep_18 rfl rfl ?_
      refine g_aload_n hX dX2_keep_19 rfl rfl ?_
      refine g_get hX fi_2_17 p2_0 e2_0 rfl dX2_keep_20 ?_
      refine g_bipush hX dX2_keep_23 bp_23 ?_
      refine g_bind (fun v : Int32 => J Z X 3 r15 mm lm 38 [some (.ref (ad Z 2 0)), some (.ref (ad Z o 0)), some (.ref (ad Z (3 + i5) 0))] [.int v, .ref (ad Z 2 0)]) ?_ ?_
      · refine g_icmp_ne hX dX2_keep_25 (fun h25 => ?_) (fun h25 => ?_)
        · refine g_iconst hX dX2_keep_28 ic_0 ?_
          refine g_goto hX dX2_keep_29 ?_
          exact g_wk (lv0 := [some (.ref (ad Z 2 0)), some (.ref (ad Z o 0)), some (.ref (ad Z (3 + i5) 0))]) ⟨rfl, rfl, rfl, trivial⟩ (g_end (fun h => h))
        · refine g_aload_n hX dX2_keep_32 rfl rfl ?_
          refine g_get hX fi_2_17 p2_0 e2_0 rfl dX2_keep_33 ?_
          refine g_iconst hX dX2_keep_36 ic_1 ?_
          refine g_iadd hX dX2_keep_37 ?_
          exact g_wk (lv0 := [some (.ref (ad Z 2 0)), some (.ref (ad Z o 0)), some (.ref (ad Z (3 + i5) 0))]) ⟨rfl, rfl, rfl, trivial⟩ (g_end (fun h => h))
      · intro k38_0
        show G _ _ (J Z X 3 r15 mm lm 38 [some (.ref (ad Z 2 0)), some (.ref (ad Z o 0)), some (.ref (ad Z (3 + i5) 0))] [.int k38_0, .ref (ad Z 2 0)])
        refine g_putC hX fi_2_17 p2_0 (by decide) (s2_0 Z) rfl (Nat.le_of_ble_eq_true rfl) tyX2_ok nmX2 rfl rfl rfl rfl dX2_keep_38 ?_
        refine g_aload_n hX dX2_keep_41 rfl rfl ?_
        refine g_aload_n hX dX2_keep_42 rfl rfl ?_
        refine g_get hX fi_2_21 p2_0 e2_0 rfl dX2_keep_43 ?_
        refine g_iconst hX dX2_keep_46 ic_1 ?_
        refine g_iadd hX dX2_keep_47 ?_
        refine g_bipush hX dX2_keep_48 bp_24 ?_
        refine g_min hX dX2_keep_50 mm_2_33 mm_min_2 mm_3 mm_min_4 rfl rfl (Nat.le_of_ble_eq_true rfl) ?_
        refine g_putC hX fi_2_21 p2_0 (by decide) (s2_0 Z) rfl (Nat.le_of_ble_eq_true rfl) tyX2_ok nmX2 rfl rfl rfl rfl dX2_keep_53 ?_
        exact g_vret hX (fun h => h) dX2_keep_56
  exact g r h hF

def f_X2_restore (cm : CM) (o : Nat) : Option (CM) :=
  ((if (cm 2 0 1) = 0 then
      some 23
    else
      some ((cm 2 0 1) - 1)) : Option (Int32)).bind fun k18_0 =>
  (f_X2_pageAt k18_0).bind fun r21 => match r21 with
  | none =>
    if (cm 2 0 2) ≤ 0 then
      some cm
    else
      some cm
  | some i21 =>
    if (cm 2 0 2) ≤ 0 then
      some cm
    else
      (f_X3_copyFrom cm o (3 + i21)).bind fun r38 =>
      some (u3 (u3 r38 2 0 (upd (r38 2 0) 1 k18_0)) 2 0 (upd ((u3 r38 2 0 (upd (r38 2 0) 1 k18_0)) 2 0) 2 (((u3 r38 2 0 (upd (r38 2 0) 1 k18_0)) 2 0 2) - 1)))

abbrev rm_X2_restore : Room := { frames := 2, cells := 0, slots := 0, locals := 61 }
set_option maxHeartbeats 2000000 in
set_option maxRecDepth 20000 in
theorem c_X2_restore {Z : ZC} {cm : CM} {mm : MM} {lm : LM} {o : Nat} {r : CM} (hO : isOf o) (h : f_X2_restore cm o = some r) : Ct Z yX2_restore cX2_restore 4 none rm_X2_restore [.ref (ad Z 2 0), .ref (ad Z o 0)] cm mm lm none r mm lm := by
  refine Ct_of (own := RX2) [some (.ref (ad Z 2 0)), some (.ref (ad Z o 0)), none, none] ⟨by decide, rfl⟩ rfl (Nat.le_of_ble_eq_true rfl) rfl (fun X hX hF => ?_)
  have g : G (fun r : CM => Fx Z X none none r mm lm) (f_X2_restore cm o) (J Z X 4 cm mm lm 0 [some (.ref (ad Z 2 0)), some (.ref (ad Z o 0)), none, none] []) := by
    unfold f_X2_restore
    refine g_aload_n hX dX2_restore_0 rfl rfl ?_
    refine g_get hX fi_2_17 p2_0 e2_0 rfl dX2_restore_1 ?_
    refine g_bind (fun v : Int32 => J Z X 4 cm mm lm 18 [some (.ref (ad Z 2 0)), some (.ref (ad Z o 0)), none, none] [.int v]) ?_ ?_
    · refine g_if_ne hX dX2_restore_4 (fun h4 => ?_) (fun h4 => ?_)
      · refine g_bipush hX dX2_restore_7 bp_23 ?_
        refine g_goto hX dX2_restore_9 ?_
        exact g_wk (lv0 := [some (.ref (ad Z 2 0)), some (.ref (ad Z o 0)), none, none]) ⟨rfl, rfl, trivial⟩ (g_end (fun h => h))
      · refine g_aload_n hX dX2_restore_12 rfl rfl ?_
        refine g_get hX fi_2_17 p2_0 e2_0 rfl dX2_restore_13 ?_
        refine g_iconst hX dX2_restore_16 ic_1 ?_
        refine g_isub hX dX2_restore_17 ?_
        exact g_wk (lv0 := [some (.ref (ad Z 2 0)), some (.ref (ad Z o 0)), none, none]) ⟨rfl, rfl, trivial⟩ (g_end (fun h => h))
    · intro k18_0
      show G _ _ (J Z X 4 cm mm lm 18 [some (.ref (ad Z 2 0)), some (.ref (ad Z o 0)), none, none] [.int k18_0])
      refine g_istore_n hX dX2_restore_18 rfl (Nat.le_of_ble_eq_true rfl) rfl ?_
      refine g_aload_n hX dX2_restore_19 rfl rfl ?_
      refine g_iload_n hX dX2_restore_20 rfl rfl ?_
      refine g_callV hX (As := [.int k18_0]) (fun r => some (pgv Z r)) (fun _ => cm) (fun _ => mm) (fun _ => lm) (fun r hr => c_X2_pageAt hr) mi_X2_pageAt ml_2_25 p2_0 e2_0 rfl rfl rfl rfl rfl (Nat.le_of_ble_eq_true rfl) dX2_restore_21 ?_
      intro r21 hr21
      rcases r21 with _ | i21
      · show G _ _ (J Z X 4 cm mm lm 24 [some (.ref (ad Z 2 0)), some (.ref (ad Z o 0)), some (.int k18_0), none] [.null])
        refine g_astore_nN hX dX2_restore_24 rfl (Nat.le_of_ble_eq_true rfl) rfl ?_
        refine g_aload_n hX dX2_restore_25 rfl rfl ?_
        refine g_get hX fi_2_21 p2_0 e2_0 rfl dX2_restore_26 ?_
        refine g_if_le hX dX2_restore_29 (fun h29 => ?_) (fun h29 => ?_)
        · exact g_vret hX (fun h => h) dX2_restore_56
        · refine g_aload_nN hX dX2_restore_32 rfl rfl ?_
          refine g_ifnul hX dX2_restore_33 ?_
          exact g_vret hX (fun h => h) dX2_restore_56
      · have hi21 := pg_lt hr21
        show G _ _ (J Z X 4 cm mm lm 24 [some (.ref (ad Z 2 0)), some (.ref (ad Z o 0)), some (.int k18_0), none] [.ref (ad Z (3 + i21) 0)])
        refine g_astore_n hX dX2_restore_24 rfl (Nat.le_of_ble_eq_true rfl) rfl ?_
        refine g_aload_n hX dX2_restore_25 rfl rfl ?_
        refine g_get hX fi_2_21 p2_0 e2_0 rfl dX2_restore_26 ?_
        refine g_if_le hX dX2_restore_29 (fun h29 => ?_) (fun h29 => ?_)
        · exact g_vret hX (fun h => h) dX2_restore_56
        · refine g_aload_n hX dX2_restore_32 rfl rfl ?_
          refine g_ifref hX ⟨dX2_restore_33.1, dX2_restore_33.2.1⟩ ?_
          refine g_aload_n hX dX2_restore_36 rfl rfl ?_
          refine g_aload_n hX dX2_restore_37 rfl rfl ?_
          refine g_callV hX (As := [.ref (ad Z (3 + i21) 0)]) (fun _ => none) (fun r => r) (fun _ => mm) (fun _ => lm) (fun r hr => c_X3_copyFrom hO (isOfP i21 hi21) hr) mi_X3_copyFrom ml_2_29 (okO hO (by decide)) (e3_0 hO) rfl rfl rfl rfl rfl (Nat.le_of_ble_eq_true rfl) dX2_restore_38 ?_
          intro r38 hr38
          refine g_aload_n hX dX2_restore_41 rfl rfl ?_
          refine g_iload_n hX dX2_restore_42 rfl rfl ?_
          refine g_putC hX fi_2_17 p2_0 (by decide) (s2_0 Z) rfl (Nat.le_of_ble_eq_true rfl) tyX2_ok nmX2 rfl rfl rfl rfl dX2_restore_43 ?_
          refine g_aload_n hX dX2_restore_46 rfl rfl ?_
          refine g_dup hX dX2_restore_47 rfl ?_
          refine g_get hX fi_2_21 p2_0 e2_0 rfl dX2_restore_48 ?_
          refine g_iconst hX dX2_restore_51 ic_1 ?_
          refine g_isub hX dX2_restore_52 ?_
          refine g_putC hX fi_2_21 p2_0 (by decide) (s2_0 Z) rfl (Nat.le_of_ble_eq_true rfl) tyX2_ok nmX2 rfl rfl rfl rfl dX2_restore_53 ?_
          exact g_vret hX (fun h => h) dX2_restore_56
  exact g r h hF
