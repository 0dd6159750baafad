def f_X6_isWithin (a0 a1 : Int32) : Option (Int32) :=
  if a0 < 0 then
    some 0
  else
    if a1 < a0 then
      some 0
    else
      some 1

abbrev rm_X6_isWithin : Room := { frames := 0, cells := 0, slots := 0, locals := 0 }
set_option maxHeartbeats 2000000 in
set_option maxRecDepth 20000 in
theorem c_X6_isWithin {Z : ZC} {cm : CM} {mm : MM} {lm : LM} {a0 a1 : Int32} {r : Int32}  (h : f_X6_isWithin a0 a1 = some r) : Ct Z yX6_isWithin cX6_isWithin 2 (some .boolean) rm_X6_isWithin [.int a0, .int a1] cm mm lm (some (.int r)) cm mm lm := by
  refine Ct_of (own := RX6) [some (.int a0), some (.int a1)] ⟨by decide, rfl⟩ rfl (Nat.le_of_ble_eq_true rfl) rfl (fun X hX hF => ?_)
  have g : G (fun r : Int32 => Fx Z X (some .boolean) (some (.int r)) cm mm lm) (f_X6_isWithin a0 a1) (J Z X 2 cm mm lm 0 [some (.int a0), some (.int a1)] []) := by
    unfold f_X6_isWithin
    refine g_iload_n hX dX6_isWithin_0 rfl rfl ?_
    refine g_if_lt hX dX6_isWithin_1 (fun h1 => ?_) (fun h1 => ?_)
    · refine g_iconst hX dX6_isWithin_13 ic_0 ?_
      exact g_zret hX (by decide) (fun h => h) dX6_isWithin_14
    · refine g_iload_n hX dX6_isWithin_4 rfl rfl ?_
      refine g_iload_n hX dX6_isWithin_5 rfl rfl ?_
      refine g_icmp_gt hX dX6_isWithin_6 (fun h6 => ?_) (fun h6 => ?_)
      · refine g_iconst hX dX6_isWithin_13 ic_0 ?_
        exact g_zret hX (by decide) (fun h => h) dX6_isWithin_14
      · refine g_iconst hX dX6_isWithin_9 ic_1 ?_
        refine g_goto hX dX6_isWithin_10 ?_
        exact g_zret hX (by decide) (fun h => h) dX6_isWithin_14
  exact g r h hF
theorem zb_X6_isWithin {a0 a1 : Int32} {r : Int32} (h : f_X6_isWithin a0 a1 = some r) : narrow .boolean (.int r) = .int r := by
  unfold f_X6_isWithin at h
  (repeat' split at h) <;> cases h <;> decide

def f_X6_isKind (a0 : Int32) : Option (Int32) :=
  (f_X6_isWithin a0 3).bind fun x2 =>
  some x2

abbrev rm_X6_isKind : Room := { frames := 1, cells := 0, slots := 0, locals := 21 }
set_option maxHeartbeats 2000000 in
set_option maxRecDepth 20000 in
theorem c_X6_isKind {Z : ZC} {cm : CM} {mm : MM} {lm : LM} {a0 : Int32} {r : Int32}  (h : f_X6_isKind a0 = some r) : Ct Z yX6_isKind cX6_isKind 1 (some .boolean) rm_X6_isKind [.int a0] cm mm lm (some (.int r)) cm mm lm := by
  refine Ct_of (own := RX6) [some (.int a0)] ⟨by decide, rfl⟩ rfl (Nat.le_of_ble_eq_true rfl) rfl (fun X hX hF => ?_)
  have g : G (fun r : Int32 => Fx Z X (some .boolean) (some (.int r)) cm mm lm) (f_X6_isKind a0) (J Z X 1 cm mm lm 0 [some (.int a0)] []) := by
    unfold f_X6_isKind
    refine g_iload_n hX dX6_isKind_0 rfl rfl ?_
    refine g_iconst hX dX6_isKind_1 ic_3 ?_
    refine g_callS hX (As := [.int a0, .int 3]) (fun r => (some (.int r))) (fun _ => cm) (fun _ => mm) (fun _ => lm) (fun r hr => c_X6_isWithin  hr) mi_X6_isWithin ml_6_56 rfl rfl rfl (Nat.le_of_ble_eq_true rfl) dX6_isKind_2 ?_
    intro x2 hx2
    exact g_zret hX (zb_X6_isWithin hx2) (fun h => h) dX6_isKind_5
  exact g r h hF

def f_X6_isGroup (a0 : Int32) : Option (Int32) :=
  (f_X6_isWithin a0 3).bind fun x2 =>
  some x2

abbrev rm_X6_isGroup : Room := { frames := 1, cells := 0, slots := 0, locals := 21 }
set_option maxHeartbeats 2000000 in
set_option maxRecDepth 20000 in
theorem c_X6_isGroup {Z : ZC} {cm : CM} {mm : MM} {lm : LM} {a0 : Int32} {r : Int32}  (h : f_X6_isGroup a0 = some r) : Ct Z yX6_isGroup cX6_isGroup 1 (some .boolean) rm_X6_isGroup [.int a0] cm mm lm (some (.int r)) cm mm lm := by
  refine Ct_of (own := RX6) [some (.int a0)] ⟨by decide, rfl⟩ rfl (Nat.le_of_ble_eq_true rfl) rfl (fun X hX hF => ?_)
  have g : G (fun r : Int32 => Fx Z X (some .boolean) (some (.int r)) cm mm lm) (f_X6_isGroup a0) (J Z X 1 cm mm lm 0 [some (.int a0)] []) := by
    unfold f_X6_isGroup
    refine g_iload_n hX dX6_isGroup_0 rfl rfl ?_
    refine g_iconst hX dX6_isGroup_1 ic_3 ?_
    refine g_callS hX (As := [.int a0, .int 3]) (fun r => (some (.int r))) (fun _ => cm) (fun _ => mm) (fun _ => lm) (fun r hr => c_X6_isWithin  hr) mi_X6_isWithin ml_6_56 rfl rfl rfl (Nat.le_of_ble_eq_true rfl) dX6_isGroup_2 ?_
    intro x2 hx2
    exact g_zret hX (zb_X6_isWithin hx2) (fun h => h) dX6_isGroup_5
  exact g r h hF

def f_X6_isGroupSet (a0 : Int32) : Option (Int32) :=
  (f_X6_isWithin a0 15).bind fun x3 =>
  some x3

abbrev rm_X6_isGroupSet : Room := { frames := 1, cells := 0, slots := 0, locals := 21 }
set_option maxHeartbeats 2000000 in
set_option maxRecDepth 20000 in
theorem c_X6_isGroupSet {Z : ZC} {cm : CM} {mm : MM} {lm : LM} {a0 : Int32} {r : Int32}  (h : f_X6_isGroupSet a0 = some r) : Ct Z yX6_isGroupSet cX6_isGroupSet 1 (some .boolean) rm_X6_isGroupSet [.int a0] cm mm lm (some (.int r)) cm mm lm := by
  refine Ct_of (own := RX6) [some (.int a0)] ⟨by decide, rfl⟩ rfl (Nat.le_of_ble_eq_true rfl) rfl (fun X hX hF => ?_)
  have g : G (fun r : Int32 => Fx Z X (some .boolean) (some (.int r)) cm mm lm) (f_X6_isGroupSet a0) (J Z X 1 cm mm lm 0 [some (.int a0)] []) := by
    unfold f_X6_isGroupSet
    refine g_iload_n hX dX6_isGroupSet_0 rfl rfl ?_
    refine g_bipush hX dX6_isGroupSet_1 bp_15 ?_
    refine g_callS hX (As := [.int a0, .int 15]) (fun r => (some (.int r))) (fun _ => cm) (fun _ => mm) (fun _ => lm) (fun r hr => c_X6_isWithin  hr) mi_X6_isWithin ml_6_56 rfl rfl rfl (Nat.le_of_ble_eq_true rfl) dX6_isGroupSet_3 ?_
    intro x3 hx3
    exact g_zret hX (zb_X6_isWithin hx3) (fun h => h) dX6_isGroupSet_6
  exact g r h hF

def f_X6_isOrder (a0 a1 a2 a3 : Int32) : Option (Int32) :=
  (f_X6_isKind a0).bind fun x1 =>
  if x1 = 0 then
    some 0
  else
    (f_X6_isKind a1).bind fun x8 =>
    if x8 = 0 then
      some 0
    else
      (f_X6_isKind a2).bind fun x15 =>
      if x15 = 0 then
        some 0
      else
        (f_X6_isKind a3).bind fun x22 =>
        if x22 = 0 then
          some 0
        else
          if ((((1 <<< (a0 &&& 31)) ||| (1 <<< (a1 &&& 31))) ||| (1 <<< (a2 &&& 31))) ||| (1 <<< (a3 &&& 31))) = 15 then
            some 1
          else
            some 0

abbrev rm_X6_isOrder : Room := { frames := 2, cells := 0, slots := 0, locals := 41 }
set_option maxHeartbeats 2000000 in
set_option maxRecDepth 20000 in
theorem c_X6_isOrder {Z : ZC} {cm : CM} {mm : MM} {lm : LM} {a0 a1 a2 a3 : Int32} {r : Int32}  (h : f_X6_isOrder a0 a1 a2 a3 = some r) : Ct Z yX6_isOrder cX6_isOrder 5 (some .boolean) rm_X6_isOrder [.int a0, .int a1, .int a2, .int a3] cm mm lm (some (.int r)) cm mm lm := by
  refine Ct_of (own := RX6) [some (.int a0), some (.int a1), some (.int a2), some (.int a3), none] ⟨by decide, rfl⟩ rfl (Nat.le_of_ble_eq_true rfl) rfl (fun X hX hF => ?_)
  have g : G (fun r : Int32 => Fx Z X (some .boolean) (some (.int r)) cm mm lm) (f_X6_isOrder a0 a1 a2 a3) (J Z X 5 cm mm lm 0 [some (.int a0), some (.int a1), some (.int a2), some (.int a3), none] []) := by
    unfold f_X6_isOrder
    refine g_iload_n hX dX6_isOrder_0 rfl rfl ?_
    refine g_callS hX (As := [.int a0]) (fun r => (some (.int r))) (fun _ => cm) (fun _ => mm) (fun _ => lm) (fun r hr => c_X6_isKind  hr) mi_X6_isKind ml_6_60 rfl rfl rfl (Nat.le_of_ble_eq_true rfl) dX6_isOrder_1 ?_
    intro x1 hx1
    refine g_if_eq hX dX6_isOrder_4 (fun h4 => ?_) (fun h4 => ?_)
    · refine g_iconst hX dX6_isOrder_28 ic_0 ?_
      exact g_zret hX (by decide) (fun h => h) dX6_isOrder_29
    · refine g_iload_n hX dX6_isOrder_7 rfl rfl ?_
      refine g_callS hX (As := [.int a1]) (fun r => (some (.int r))) (fun _ => cm) (fun _ => mm) (fun _ => lm) (fun r hr => c_X6_isKind  hr) mi_X6_isKind ml_6_60 rfl rfl rfl (Nat.le_of_ble_eq_true rfl) dX6_isOrder_8 ?_
      intro x8 hx8
      refine g_if_eq hX dX6_isOrder_11 (fun h11 => ?_) (fun h11 => ?_)
      · refine g_iconst hX dX6_isOrder_28 ic_0 ?_
        exact g_zret hX (by decide) (fun h => h) dX6_isOrder_29
      · refine g_iload_n hX dX6_isOrder_14 rfl rfl ?_
        refine g_callS hX (As := [.int a2]) (fun r => (some (.int r))) (fun _ => cm) (fun _ => mm) (fun _ => lm) (fun r hr => c_X6_isKind  hr) mi_X6_isKind ml_6_60 rfl rfl rfl (Nat.le_of_ble_eq_true rfl) dX6_isOrder_15 ?_
        intro x15 hx15
        refine g_if_eq hX dX6_isOrder_18 (fun h18 => ?_) (fun h18 => ?_)
        · refine g_iconst hX dX6_isOrder_28 ic_0 ?_
          exact g_zret hX (by decide) (fun h => h) dX6_isOrder_29
        · refine g_iload_n hX dX6_isOrder_21 rfl rfl ?_
          refine g_callS hX (As := [.int a3]) (fun r => (some (.int r))) (fun _ => cm) (fun _ => mm) (fun _ => lm) (fun r hr => c_X6_isKind  hr) mi_X6_isKind ml_6_60 rfl rfl rfl (Nat.le_of_ble_eq_true rfl) dX6_isOrder_22 ?_
          intro x22 hx22
          refine g_if_ne hX dX6_isOrder_25 (fun h25 => ?_) (fun h25 => ?_)
          · refine g_iconst hX dX6_isOrder_28 ic_0 ?_
            exact g_zret hX (by decide) (fun h => h) dX6_isOrder_29
          · refine g_iconst hX dX6_isOrder_30 ic_1 ?_
            refine g_iload_n hX dX6_isOrder_31 rfl rfl ?_
            refine g_ishl hX dX6_isOrder_32 ?_
            refine g_iconst hX dX6_isOrder_33 ic_1 ?_
            refine g_iload_n hX dX6_isOrder_34 rfl rfl ?_
            refine g_ishl hX dX6_isOrder_35 ?_
            refine g_ior hX dX6_isOrder_36 ?_
            refine g_iconst hX dX6_isOrder_37 ic_1 ?_
            refine g_iload_n hX dX6_isOrder_38 rfl rfl ?_
            refine g_ishl hX dX6_isOrder_39 ?_
            refine g_ior hX dX6_isOrder_40 ?_
            refine g_iconst hX dX6_isOrder_41 ic_1 ?_
            refine g_iload_n hX dX6_isOrder_42 rfl rfl ?_
            refine g_ishl hX dX6_isOrder_43 ?_
            refine g_ior hX dX6_isOrder_44 ?_
            refine g_istore hX dX6_isOrder_45 (Nat.le_of_ble_eq_true rfl) rfl ?_
            refine g_iload hX dX6_isOrder_47 rfl ?_
            refine g_bipush hX dX6_isOrder_49 bp_15 ?_
            refine g_icmp_ne hX dX6_isOrder_51 (fun h51 => ?_) (fun h51 => ?_)
            · refine g_iconst hX dX6_isOrder_54 ic_1 ?_
              refine g_goto hX dX6_isOrder_55 ?_
              exact g_zret hX (by decide) (fun h => h) dX6_isOrder_59
            · refine g_iconst hX dX6_isOrder_58 ic_0 ?_
              exact g_zret hX (by decide) (fun h => h) dX6_isOrder_59
  exact g r h hF

def f_J6_bitCount_0f7a4 (a0 : Int32) : Option (Int32) :=
  some ((((((((a0 - ((((a0 : Int32).toUInt32 >>> ((1 : Int32).toUInt32 &&& Int32.toUInt32 31)).toInt32) &&& 1431655765)) &&& 858993459) + ((((a0 - ((((a0 : Int32).toUInt32 >>> ((1 : Int32).toUInt32 &&& Int32.toUInt32 31)).toInt32) &&& 1431655765) : Int32).toUInt32 >>> ((2 : Int32).toUInt32 &&& Int32.toUInt32 31)).toInt32) &&& 858993459)) + (((((a0 - ((((a0 : Int32).toUInt32 >>> ((1 : Int32).toUInt32 &&& Int32.toUInt32 31)).toInt32) &&& 1431655765)) &&& 858993459) + ((((a0 - ((((a0 : Int32).toUInt32 >>> ((1 : Int32).toUInt32 &&& Int32.toUInt32 31)).toInt32) &&& 1431655765) : Int32).toUInt32 >>> ((2 : Int32).toUInt32 &&& Int32.toUInt32 31)).toInt32) &&& 858993459) : Int32).toUInt32 >>> ((4 : Int32).toUInt32 &&& Int32.toUInt32 31)).toInt32)) &&& 252645135) + (((((((a0 - ((((a0 : Int32).toUInt32 >>> ((1 : Int32).toUInt32 &&& Int32.toUInt32 31)).toInt32) &&& 1431655765)) &&& 858993459) + ((((a0 - ((((a0 : Int32).toUInt32 >>> ((1 : Int32).toUInt32 &&& Int32.toUInt32 31)).toInt32) &&& 1431655765) : Int32).toUInt32 >>> ((2 : Int32).toUInt32 &&& Int32.toUInt32 31)).toInt32) &&& 858993459)) + (((((a0 - ((((a0 : Int32).toUInt32 >>> ((1 : Int32).toUInt32 &&& Int32.toUInt32 31)).toInt32) &&& 1431655765)) &&& 858993459) + ((((a0 - ((((a0 : Int32).toUInt32 >>> ((1 : Int32).toUInt32 &&& Int32.toUInt32 31)).toInt32) &&& 1431655765) : Int32).toUInt32 >>> ((2 : Int32).toUInt32 &&& Int32.toUInt32 31)).toInt32) &&& 858993459) : Int32).toUInt32 >>> ((4 : Int32).toUInt32 &&& Int32.toUInt32 31)).toInt32)) &&& 252645135 : Int32).toUInt32 >>> ((8 : Int32).toUInt32 &&& Int32.toUInt32 31)).toInt32)) + ((((((((a0 - ((((a0 : Int32).toUInt32 >>> ((1 : Int32).toUInt32 &&& Int32.toUInt32 31)).toInt32) &&& 1431655765)) &&& 858993459) + ((((a0 - ((((a0 : Int32).toUInt32 >>> ((1 : Int32).toUInt32 &&& Int32.toUInt32 31)).toInt32) &&& 1431655765) : Int32).toUInt32 >>> ((2 : Int32).toUInt32 &&& Int32.toUInt32 31)).toInt32) &&& 858993459)) + (((((a0 - ((((a0 : Int32).toUInt32 >>> ((1 : Int32).toUInt32 &&& Int32.toUInt32 31)).toInt32) &&& 1431655765)) &&& 858993459) + ((((a0 - ((((a0 : Int32).toUInt32 >>> ((1 : Int32).toUInt32 &&& Int32.toUInt32 31)).toInt32) &&& 1431655765) : Int32).toUInt32 >>> ((2 : Int32).toUInt32 &&& Int32.toUInt32 31)).toInt32) &&& 858993459) : Int32).toUInt32 >>> ((4 : Int32).toUInt32 &&& Int32.toUInt32 31)).toInt32)) &&& 252645135) + (((((((a0 - ((((a0 : Int32).toUInt32 >>> ((1 : Int32).toUInt32 &&& Int32.toUInt32 31)).toInt32) &&& 1431655765)) &&& 858993459) + ((((a0 - ((((a0 : Int32).toUInt32 >>> ((1 : Int32).toUInt32 &&& Int32.toUInt32 31)).toInt32) &&& 1431655765) : Int32).toUInt32 >>> ((2 : Int32).toUInt32 &&& Int32.toUInt32 31)).toInt32) &&& 858993459)) + (((((a0 - ((((a0 : Int32).toUInt32 >>> ((1 : Int32).toUInt32 &&& Int32.toUInt32 31)).toInt32) &&& 1431655765)) &&& 858993459) + ((((a0 - ((((a0 : Int32).toUInt32 >>> ((1 : Int32).toUInt32 &&& Int32.toUInt32 31)).toInt32) &&& 1431655765) : Int32).toUInt32 >>> ((2 : Int32).toUInt32 &&& Int32.toUInt32 31)).toInt32) &&& 858993459) : Int32).toUInt32 >>> ((4 : Int32).toUInt32 &&& Int32.toUInt32 31)).toInt32)) &&& 252645135 : Int32).toUInt32 >>> ((8 : Int32).toUInt32 &&& Int32.toUInt32 31)).toInt32) : Int32).toUInt32 >>> ((16 : Int32).toUInt32 &&& Int32.toUInt32 31)).toInt32)) &&& 63)

abbrev rm_J6_bitCount_0f7a4 : Room := { frames := 0, cells := 0, slots := 0, locals := 0 }
set_option maxHeartbeats 2000000 in
set_option maxRecDepth 20000 in
theorem c_J6_bitCount_0f7a4 {Z : ZC} {cm : CM} {mm : MM} {lm : LM} {a0 : Int32} {r : Int32}  (h : f_J6_bitCount_0f7a4 a0 = some r) : Ct Z yJ6_bitCount_0f7a4 cJ6_bitCount_0f7a4 1 (some .int) rm_J6_bitCount_0f7a4 [.int a0] cm mm lm (some (.int r)) cm mm lm := by
  refine Ct_of (own := RJ6) [some (.int a0)] ⟨by decide, rfl⟩ rfl (Nat.le_of_ble_eq_true rfl) rfl (fun X hX hF => ?_)
  have g : G (fun r : Int32 => Fx Z X (some .int) (some (.int r)) cm mm lm) (f_J6_bitCount_0f7a4 a0) (J Z X 1 cm mm lm 0 [some (.int a0)] []) := by
    unfold f_J6_bitCount_0f7a4
    refine g_iload_n hX dJ6_bitCount_0f7a4_0 rfl rfl ?_
    refine g_iload_n hX dJ6_bitCount_0f7a4_1 rfl rfl ?_
    refine g_iconst hX dJ6_bitCount_0f7a4_2 ic_1 ?_
    refine g_iushr hX dJ6_bitCount_0f7a4_3 ?_
    refine g_ldcw hX dJ6_bitCount_0f7a4_4 kc_265 ?_
    refine g_iand hX dJ6_bitCount_0f7a4_7 ?_
    refine g_isub hX dJ6_bitCount_0f7a4_8 ?_
    refine g_istore_n hX dJ6_bitCount_0f7a4_9 rfl (Nat.le_of_ble_eq_true rfl) rfl ?_
    refine g_iload_n hX dJ6_bitCount_0f7a4_10 rfl rfl ?_
    refine g_ldcw hX dJ6_bitCount_0f7a4_11 kc_266 ?_
    refine g_iand hX dJ6_bitCount_0f7a4_14 ?_
    refine g_iload_n hX dJ6_bitCount_0f7a4_15 rfl rfl ?_
    refine g_iconst hX dJ6_bitCount_0f7a4_16 ic_2 ?_
    refine g_iushr hX dJ6_bitCount_0f7a4_17 ?_
    refine g_ldcw hX dJ6_bitCount_0f7a4_18 kc_266 ?_
    refine g_iand hX dJ6_bitCount_0f7a4_21 ?_
    refine g_iadd hX dJ6_bitCount_0f7a4_22 ?_
    refine g_istore_n hX dJ6_bitCount_0f7a4_23 rfl (Nat.le_of_ble_eq_true rfl) rfl ?_
    refine g_iload_n hX dJ6_bitCount_0f7a4_24 rfl rfl ?_
    refine g_iload_n hX dJ6_bitCount_0f7a4_25 rfl rfl ?_
    refine g_iconst hX dJ6_bitCount_0f7a4_26 ic_4 ?_
    refine g_iushr hX dJ6_bitCount_0f7a4_27 ?_
    refine g_iadd hX dJ6_bitCount_0f7a4_28 ?_
    refine g_ldcw hX dJ6_bitCount_0f7a4_29 kc_267 ?_
    refine g_iand hX dJ6_bitCount_0f7a4_32 ?_
    refine g_istore_n hX dJ6_bitCount_0f7a4_33 rfl (Nat.le_of_ble_eq_true rfl) rfl ?_
    refine g_iload_n hX dJ6_bitCount_0f7a4_34 rfl rfl ?_
    refine g_iload_n hX dJ6_bitCount_0f7a4_35 rfl rfl ?_
    refine g_bipush hX dJ6_bitCount_0f7a4_36 bp_8 ?_
    refine g_iushr hX dJ6_bitCount_0f7a4_38 ?_
    refine g_iadd hX dJ6_bitCount_0f7a4_39 ?_
    refine g_istore_n hX dJ6_bitCount_0f7a4_40 rfl (Nat.le_of_ble_eq_true rfl) rfl ?_
    refine g_iload_n hX dJ6_bitCount_0f7a4_41 rfl rfl ?_
    refine g_iload_n hX dJ6_bitCount_0f7a4_42 rfl rfl ?_
    refine g_bipush hX dJ6_bitCount_0f7a4_43 bp_16 ?_
    refine g_iushr hX dJ6_bitCount_0f7a4_45 ?_
    refine g_iadd hX dJ6_bitCount_0f7a4_46 ?_
    refine g_istore_n hX dJ6_bitCount_0f7a4_47 rfl (Nat.le_of_ble_eq_true rfl) rfl ?_
    refine g_iload_n hX dJ6_bitCount_0f7a4_48 rfl rfl ?_
    refine g_bipush hX dJ6_bitCount_0f7a4_49 bp_63 ?_
    refine g_iand hX dJ6_bitCount_0f7a4_51 ?_
    exact g_iret hX (fun h => h) dJ6_bitCount_0f7a4_52
  exact g r h hF

def f_X0_freeReserved (cm : CM) (C : Nat) (a1 a2 : Int32) : Option (Int32) :=
  (f_X4_get cm C 5 16 ((a1 * 4) + a2)).bind fun x9 =>
  some x9

abbrev rm_X0_freeReserved : Room := { frames := 1, cells := 0, slots := 0, locals := 21 }
set_option maxHeartbeats 2000000 in
set_option maxRecDepth 20000 in
theorem c_X0_freeReserved {Z : ZC} {cm : CM} {mm : MM} {lm : LM} {C : Nat} {a1 a2 : Int32} {r : Int32} (hC : isCh C) (h : f_X0_freeReserved cm C a1 a2 = some r) : Ct Z yX0_freeReserved cX0_freeReserved 3 (some .int) rm_X0_freeReserved [.ref (ad Z C 0), .int a1, .int a2] cm mm lm (some (.int r)) cm mm lm := by
  refine Ct_of (own := RX0) [some (.ref (ad Z C 0)), some (.int a1), some (.int a2)] ⟨by decide, rfl⟩ rfl (Nat.le_of_ble_eq_true rfl) rfl (fun X hX hF => ?_)
  have g : G (fun r : Int32 => Fx Z X (some .int) (some (.int r)) cm mm lm) (f_X0_freeReserved cm C a1 a2) (J Z X 3 cm mm lm 0 [some (.ref (ad Z C 0)), some (.int a1), some (.int a2)] []) := by
    unfold f_X0_freeReserved
    refine g_aload_n hX dX0_freeReserved_0 rfl rfl ?_
    refine g_get hX fi_0_23 (okC hC (by decide)) (e0_0 hC) rfl dX0_freeReserved_1 ?_
    refine g_iload_n hX dX0_freeReserved_4 rfl rfl ?_
    refine g_iconst hX dX0_freeReserved_5 ic_4 ?_
    refine g_imul hX dX0_freeReserved_6 ?_
    refine g_iload_n hX dX0_freeReserved_7 rfl rfl ?_
    refine g_iadd hX dX0_freeReserved_8 ?_
    refine g_callV hX (As := [.int ((a1 * 4) + a2)]) (fun r => (some (.int r))) (fun _ => cm) (fun _ => mm) (fun _ => lm) (fun r hr => c_X4_get (rw0_5 hC) hr) mi_X4_get ml_0_105 (rw0_5 hC).1 (eR_0 (rw0_5 hC)) rfl rfl rfl rfl rfl (Nat.le_of_ble_eq_true rfl) dX0_freeReserved_9 ?_
    intro x9 hx9
    exact g_iret hX (fun h => h) dX0_freeReserved_12
  exact g r h hF

def f_X5_changeLeft_B11 (C : Nat) (a1 : Int32) (a2 : Int32) (s11_3 : Int32) (c11_ : CM) : Option ((Int32 × CM) ⊕ (Int32 × CM)) :=
  if 16 ≤ s11_3 then
    some (.inl (s11_3, c11_))
  else
    if ((s11_3 >>> (a1 &&& 31)) &&& 1) = 1 then
      (rd 16 (c11_ C 18) s11_3).bind fun x35 =>
      (wr 16 (c11_ C 18) s11_3 (x35 + a2)).bind fun g38 =>
      some (.inr (s11_3 + 1, u3 c11_ C 18 g38))
    else
      some (.inr (s11_3 + 1, c11_))

def f_X5_changeLeft (cm : CM) (C : Nat) (a1 a2 : Int32) : Option (CM) :=
  (f_X4_add cm C 19 4 a1 a2).bind fun r6 =>
  (itr (fun s : Int32 × CM => f_X5_changeLeft_B11 C a1 a2 s.1 s.2) 2000 (0, r6)).bind fun (s11_3, c11_) =>
  some c11_

abbrev rm_X5_changeLeft : Room := { frames := 1, cells := 0, slots := 0, locals := 22 }
set_option maxHeartbeats 2000000 in
set_option maxRecDepth 20000 in
theorem c_X5_changeLeft {Z : ZC} {cm : CM} {mm : MM} {lm : LM} {C : Nat} {a1 a2 : Int32} {r : CM} (hC : isCh C) (h : f_X5_changeLeft cm C a1 a2 = some r) : Ct Z yX5_changeLeft cX5_changeLeft 4 none rm_X5_changeLeft [.ref (ad Z C 17), .int a1, .int a2] cm mm lm none r mm lm := by
  refine Ct_of (own := RX5) [some (.ref (ad Z C 17)), some (.int a1), some (.int a2), none] ⟨by decide, rfl⟩ rfl (Nat.le_of_ble_eq_true rfl) rfl (fun X hX hF => ?_)
  have g : G (fun r : CM => Fx Z X none none r mm lm) (f_X5_changeLeft cm C a1 a2) (J Z X 4 cm mm lm 0 [some (.ref (ad Z C 17)), some (.int a1), some (.int a2), none] []) := by
    unfold f_X5_changeLeft
    refine g_aload_n hX dX5_changeLeft_0 rfl rfl ?_
    refine g_get hX fi_5_20 (okC hC (by decide)) (e0_17 hC) rfl dX5_changeLeft_1 ?_
    refine g_iload_n hX dX5_changeLeft_4 rfl rfl ?_
    refine g_iload_n hX dX5_changeLeft_5 rfl rfl ?_
    refine g_callV hX (As := [.int a1, .int a2]) (fun _ => none) (fun r => r) (fun _ => mm) (fun _ => lm) (fun r hr => c_X4_add (rw0_19 hC) hr) mi_X4_add ml_5_52 (rw0_19 hC).1 (eR_0 (rw0_19 hC)) rfl rfl rfl rfl rfl (Nat.le_of_ble_eq_true rfl) dX5_changeLeft_6 ?_
    intro r6 hr6
    refine g_iconst hX dX5_changeLeft_9 ic_0 ?_
    refine g_istore_n hX dX5_changeLeft_10 rfl (Nat.le_of_ble_eq_true rfl) rfl ?_
    refine g_loop (Hd := fun s : Int32 × CM => J Z X 4 s.2 mm lm 11 [some (.ref (ad Z C 17)), some (.int a1), some (.int a2), some (.int s.1)] []) (Ex := fun s : Int32 × CM => J Z X 4 s.2 mm lm 45 [some (.ref (ad Z C 17)), some (.int a1), some (.int a2), some (.int s.1)] []) ?_ ?_
    · rintro ⟨s11_3, c11_⟩
      show G _ (f_X5_changeLeft_B11 C a1 a2 s11_3 c11_) (J Z X 4 c11_ mm lm 11 [some (.ref (ad Z C 17)), some (.int a1), some (.int a2), some (.int s11_3)] [])
      unfold f_X5_changeLeft_B11
      refine g_iload_n hX dX5_changeLeft_11 rfl rfl ?_
      refine g_aload_n hX dX5_changeLeft_12 rfl rfl ?_
      refine g_get hX fi_5_9 (okC hC (by decide)) (e0_17 hC) rfl dX5_changeLeft_13 ?_
      refine g_alen (v := 16) hX (okC hC (by decide)) (e0_18 hC) (by decide) dX5_changeLeft_16 ?_
      refine g_icmp_ge hX dX5_changeLeft_17 (fun h17 => ?_) (fun h17 => ?_)
      · exact g_wk (lv0 := [some (.ref (ad Z C 17)), some (.int a1), some (.int a2), some (.int s11_3)]) ⟨rfl, rfl, rfl, rfl, trivial⟩ (g_end (fun h => h))
      · refine g_iload_n hX dX5_changeLeft_20 rfl rfl ?_
        refine g_iload_n hX dX5_changeLeft_21 rfl rfl ?_
        refine g_ishr hX dX5_changeLeft_22 ?_
        refine g_iconst hX dX5_changeLeft_23 ic_1 ?_
        refine g_iand hX dX5_changeLeft_24 ?_
        refine g_iconst hX dX5_changeLeft_25 ic_1 ?_
        refine g_icmp_ne hX dX5_changeLeft_26 (fun h26 => ?_) (fun h26 => ?_)
        · refine g_aload_n hX dX5_changeLeft_29 rfl rfl ?_
          refine g_get hX fi_5_9 (okC hC (by decide)) (e0_17 hC) rfl dX5_changeLeft_30 ?_
          refine g_iload_n hX dX5_changeLeft_33 rfl rfl ?_
          refine g_dup2 hX dX5_changeLeft_34 rfl rfl ?_
          refine g_iald hX (okC hC (by decide)) (e0_18 hC) dX5_changeLeft_35 ?_
          intro x35 hx35
          refine g_iload_n hX dX5_changeLeft_36 rfl rfl ?_
          refine g_iadd hX dX5_changeLeft_37 ?_
          refine g_iastC hX (okC hC (by decide)) (n32C hC) (s0_18 hC Z) dX5_changeLeft_38 ?_
          intro g38 hg38
          refine g_iinc hX dX5_changeLeft_39 ic_1 rfl (Nat.le_of_ble_eq_true rfl) rfl ?_
          refine g_goto hX dX5_changeLeft_42 ?_
          exact g_wk (lv0 := [some (.ref (ad Z C 17)), some (.int a1), some (.int a2), some (.int (s11_3 + 1))]) ⟨rfl, rfl, rfl, rfl, trivial⟩ (g_end (fun h => h))
        · refine g_iinc hX dX5_changeLeft_39 ic_1 rfl (Nat.le_of_ble_eq_true rfl) rfl ?_
          refine g_goto hX dX5_changeLeft_42 ?_
          exact g_wk (lv0 := [some (.ref (ad Z C 17)), some (.int a1), some (.int a2), some (.int (s11_3 + 1))]) ⟨rfl, rfl, rfl, rfl, trivial⟩ (g_end (fun h => h))
    · rintro ⟨s11_3, c11_⟩
      show G _ _ (J Z X 4 c11_ mm lm 45 [some (.ref (ad Z C 17)), some (.int a1), some (.int a2), some (.int s11_3)] [])
      exact g_vret hX (fun h => h) dX5_changeLeft_45
  exact g r h hF

def f_X5_add_B2 (C : Nat) (a1 : Int32) (a2 : Int32) (s2_3 : Int32) (c2_ : CM) : Option ((Int32 × CM) ⊕ (Int32 × CM)) :=
  if 16 ≤ s2_3 then
    some (.inl (s2_3, c2_))
  else
    if (a1 &&& (s2_3 ^^^ (-1))) = 0 then
      some (.inr (s2_3 + 1, c2_))
    else
      (rd 16 (c2_ C 18) s2_3).bind fun x25 =>
      (wr 16 (c2_ C 18) s2_3 (x25 + a2)).bind fun g28 =>
      some (.inr (s2_3 + 1, u3 c2_ C 18 g28))

def f_X5_add (cm : CM) (C : Nat) (a1 a2 : Int32) : Option (CM) :=
  (itr (fun s : Int32 × CM => f_X5_add_B2 C a1 a2 s.1 s.2) 2000 (0, cm)).bind fun (s2_3, c2_) =>
  some c2_

abbrev rm_X5_add : Room := { frames := 0, cells := 0, slots := 0, locals := 0 }
set_option maxHeartbeats 2000000 in
set_option maxRecDepth 20000 in
theorem c_X5_add {Z : ZC} {cm : CM} {mm : MM} {lm : LM} {C : Nat} {a1 a2 : Int32} {r : CM} (hC : isCh C) (h : f_X5_add cm C a1 a2 = some r) : Ct Z yX5_add cX5_add 4 none rm_X5_add [.ref (ad Z C 17), .int a1, .int a2] cm mm lm none r mm lm := by
  refine Ct_of (own := RX5) [some (.ref (ad Z C 17)), some (.int a1), some (.int a2), none] ⟨by decide, rfl⟩ rfl (Nat.le_of_ble_eq_true rfl) rfl (fun X hX hF => ?_)
  have g : G (fun r : CM => Fx Z X none none r mm lm) (f_X5_add cm C a1 a2) (J Z X 4 cm mm lm 0 [some (.ref (ad Z C 17)), some (.int a1), some (.int a2), none] []) := by
    unfold f_X5_add
    refine g_iconst hX dX5_add_0 ic_0 ?_
    refine g_istore_n hX dX5_add_1 rfl (Nat.le_of_ble_eq_true rfl) rfl ?_
    refine g_loop (Hd := fun s : Int32 × CM => J Z X 4 s.2 mm lm 2 [some (.ref (ad Z C 17)), some (.int a1), some (.int a2), some (.int s.1)] []) (Ex := fun s : Int32 × CM => J Z X 4 s.2 mm lm 35 [some (.ref (ad Z C 17)), some (.int a1), some (.int a2), some (.int s.1)] []) ?_ ?_
    · rintro ⟨s2_3, c2_⟩
      show G _ (f_X5_add_B2 C a1 a2 s2_3 c2_) (J Z X 4 c2_ mm lm 2 [some (.ref (ad Z C 17)), some (.int a1), some (.int a2), some (.int s2_3)] [])
      unfold f_X5_add_B2
      refine g_iload_n hX dX5_add_2 rfl rfl ?_
      refine g_aload_n hX dX5_add_3 rfl rfl ?_
      refine g_get hX fi_5_9 (okC hC (by decide)) (e0_17 hC) rfl dX5_add_4 ?_
      refine g_alen (v := 16) hX (okC hC (by decide)) (e0_18 hC) (by decide) dX5_add_7 ?_
      refine g_icmp_ge hX dX5_add_8 (fun h8 => ?_) (fun h8 => ?_)
      · exact g_wk (lv0 := [some (.ref (ad Z C 17)), some (.int a1), some (.int a2), some (.int s2_3)]) ⟨rfl, rfl, rfl, rfl, trivial⟩ (g_end (fun h => h))
      · refine g_iload_n hX dX5_add_11 rfl rfl ?_
        refine g_iload_n hX dX5_add_12 rfl rfl ?_
        refine g_iconst hX dX5_add_13 ic_m1 ?_
        refine g_ixor hX dX5_add_14 ?_
        refine g_iand hX dX5_add_15 ?_
        refine g_if_eq hX dX5_add_16 (fun h16 => ?_) (fun h16 => ?_)
        · refine g_iinc hX dX5_add_29 ic_1 rfl (Nat.le_of_ble_eq_true rfl) rfl ?_
          refine g_goto hX dX5_add_32 ?_
          exact g_wk (lv0 := [some (.ref (ad Z C 17)), some (.int a1), some (.int a2), some (.int (s2_3 + 1))]) ⟨rfl, rfl, rfl, rfl, trivial⟩ (g_end (fun h => h))
        · refine g_aload_n hX dX5_add_19 rfl rfl ?_
          refine g_get hX fi_5_9 (okC hC (by decide)) (e0_17 hC) rfl dX5_add_20 ?_
          refine g_iload_n hX dX5_add_23 rfl rfl ?_
          refine g_dup2 hX dX5_add_24 rfl rfl ?_
          refine g_iald hX (okC hC (by decide)) (e0_18 hC) dX5_add_25 ?_
          intro x25 hx25
          refine g_iload_n hX dX5_add_26 rfl rfl ?_
          refine g_iadd hX dX5_add_27 ?_
          refine g_iastC hX (okC hC (by decide)) (n32C hC) (s0_18 hC Z) dX5_add_28 ?_
          intro g28 hg28
          refine g_iinc hX dX5_add_29 ic_1 rfl (Nat.le_of_ble_eq_true rfl) rfl ?_
          refine g_goto hX dX5_add_32 ?_
          exact g_wk (lv0 := [some (.ref (ad Z C 17)), some (.int a1), some (.int a2), some (.int (s2_3 + 1))]) ⟨rfl, rfl, rfl, rfl, trivial⟩ (g_end (fun h => h))
    · rintro ⟨s2_3, c2_⟩
      show G _ _ (J Z X 4 c2_ mm lm 35 [some (.ref (ad Z C 17)), some (.int a1), some (.int a2), some (.int s2_3)] [])
      exact g_vret hX (fun h => h) dX5_add_35
  exact g r h hF

def f_X5_fill_B5 (cm : CM) (C : Nat) (s5_1 : Int32) (s5_2 : Int32) : Option ((Int32 × Int32) ⊕ (Int32 × Int32)) :=
  if 16 ≤ s5_2 then
    some (.inl (s5_1, s5_2))
  else
    (rd 16 (cm C 18) s5_2).bind fun x20 =>
    some (.inr ((if x20 < s5_1 then x20 else s5_1), s5_2 + 1))

def f_X5_fill (cm : CM) (C : Nat) : Option (Int32) :=
  (itr (fun s : Int32 × Int32 => f_X5_fill_B5 cm C s.1 s.2) 2000 (16, 0)).bind fun (s5_1, s5_2) =>
  some s5_1

abbrev rm_X5_fill : Room := { frames := 1, cells := 0, slots := 0, locals := 21 }
set_option maxHeartbeats 2000000 in
set_option maxRecDepth 20000 in
theorem c_X5_fill {Z : ZC} {cm : CM} {mm : MM} {lm : LM} {C : Nat} {r : Int32} (hC : isCh C) (h : f_X5_fill cm C = some r) : Ct Z yX5_fill cX5_fill 3 (some .int) rm_X5_fill [.ref (ad Z C 17)] cm mm lm (some (.int r)) cm mm lm := by
  refine Ct_of (own := RX5) [some (.ref (ad Z C 17)), none, none] ⟨by decide, rfl⟩ rfl (Nat.le_of_ble_eq_true rfl) rfl (fun X hX hF => ?_)
  have g : G (fun r : Int32 => Fx Z X (some .int) (some (.int r)) cm mm lm) (f_X5_fill cm C) (J Z X 3 cm mm lm 0 [some (.ref (ad Z C 17)), none, none] []) := by
    unfold f_X5_fill
    refine g_bipush hX dX5_fill_0 bp_16 ?_
    refine g_istore_n hX dX5_fill_2 rfl (Nat.le_of_ble_eq_true rfl) rfl ?_
    refine g_iconst hX dX5_fill_3 ic_0 ?_
    refine g_istore_n hX dX5_fill_4 rfl (Nat.le_of_ble_eq_true rfl) rfl ?_
    refine g_loop (Hd := fun s : Int32 × Int32 => J Z X 3 cm mm lm 5 [some (.ref (ad Z C 17)), some (.int s.1), some (.int s.2)] []) (Ex := fun s : Int32 × Int32 => J Z X 3 cm mm lm 31 [some (.ref (ad Z C 17)), some (.int s.1), some (.int s.2)] []) ?_ ?_
    · rintro ⟨s5_1, s5_2⟩
      show G _ (f_X5_fill_B5 cm C s5_1 s5_2) (J Z X 3 cm mm lm 5 [some (.ref (ad Z C 17)), some (.int s5_1), some (.int s5_2)] [])
      unfold f_X5_fill_B5
      refine g_iload_n hX dX5_fill_5 rfl rfl ?_
      refine g_aload_n hX dX5_fill_6 rfl rfl ?_
      refine g_get hX fi_5_9 (okC hC (by decide)) (e0_17 hC) rfl dX5_fill_7 ?_
      refine g_alen (v := 16) hX (okC hC (by decide)) (e0_18 hC) (by decide) dX5_fill_10 ?_
      refine g_icmp_ge hX dX5_fill_11 (fun h11 => ?_) (fun h11 => ?_)
      · exact g_wk (lv0 := [some (.ref (ad Z C 17)), some (.int s5_1), some (.int s5_2)]) ⟨rfl, rfl, rfl, trivial⟩ (g_end (fun h => h))
      · refine g_iload_n hX dX5_fill_14 rfl rfl ?_
        refine g_aload_n hX dX5_fill_15 rfl rfl ?_
        refine g_get hX fi_5_9 (okC hC (by decide)) (e0_17 hC) rfl dX5_fill_16 ?_
        refine g_iload_n hX dX5_fill_19 rfl rfl ?_
        refine g_iald hX (okC hC (by decide)) (e0_18 hC) dX5_fill_20 ?_
        intro x20 hx20
        refine g_min hX dX5_fill_21 mm_5_37 mm_min_2 mm_3 mm_min_4 rfl rfl (Nat.le_of_ble_eq_true rfl) ?_
        refine g_istore_n hX dX5_fill_24 rfl (Nat.le_of_ble_eq_true rfl) rfl ?_
        refine g_iinc hX dX5_fill_25 ic_1 rfl (Nat.le_of_ble_eq_true rfl) rfl ?_
        refine g_goto hX dX5_fill_28 ?_
        exact g_wk (lv0 := [some (.ref (ad Z C 17)), some (.int (if x20 < s5_1 then x20 else s5_1)), some (.int (s5_2 + 1))]) ⟨rfl, rfl, rfl, trivial⟩ (g_end (fun h => h))
    · rintro ⟨s5_1, s5_2⟩
      show G _ _ (J Z X 3 cm mm lm 31 [some (.ref (ad Z C 17)), some (.int s5_1), some (.int s5_2)] [])
      refine g_iload_n hX dX5_fill_31 rfl rfl ?_
      exact g_iret hX (fun h => h) dX5_fill_32
  exact g r h hF

def f_X5_begin_B2 (C : Nat) (s2_3 : Int32) (c2_ : CM) : Option ((Int32 × CM) ⊕ (Int32 × CM)) :=
  if 16 ≤ s2_3 then
    some (.inl (s2_3, c2_))
  else
    (wr 16 (c2_ C 18) s2_3 0).bind fun g17 =>
    some (.inr (s2_3 + 1, u3 c2_ C 18 g17))

def f_X5_begin_B34 (C : Nat) (a2 : Int32) (s34_3 : Int32) (c34_ : CM) : Option ((Int32 × CM) ⊕ (Int32 × CM)) :=
  if 4 ≤ s34_3 then
    some (.inl (s34_3, c34_))
  else
    (f_X0_freeReserved c34_ C a2 s34_3).bind fun x44 =>
    (f_X5_changeLeft c34_ C s34_3 x44).bind fun r47 =>
    some (.inr (s34_3 + 1, r47))

def f_X5_begin (cm : CM) (C : Nat) (a2 : Int32) : Option (CM) :=
  (itr (fun s : Int32 × CM => f_X5_begin_B2 C s.1 s.2) 2000 (0, cm)).bind fun (s2_3, c2_) =>
  (f_X4_fill c2_ C 19 4 0).bind fun r29 =>
  (itr (fun s : Int32 × CM => f_X5_begin_B34 C a2 s.1 s.2) 2000 (0, r29)).bind fun (s34_3, c34_) =>
  some c34_

abbrev rm_X5_begin : Room := { frames := 2, cells := 0, slots := 0, locals := 45 }
set_option maxHeartbeats 2000000 in
set_option maxRecDepth 20000 in
theorem c_X5_begin {Z : ZC} {cm : CM} {mm : MM} {lm : LM} {C : Nat} {a2 : Int32} {r : CM} (hC : isCh C) (h : f_X5_begin cm C a2 = some r) : Ct Z yX5_begin cX5_begin 4 none rm_X5_begin [.ref (ad Z C 17), .ref (ad Z C 0), .int a2] cm mm lm none r mm lm := by
  refine Ct_of (own := RX5) [some (.ref (ad Z C 17)), some (.ref (ad Z C 0)), some (.int a2), none] ⟨by decide, rfl⟩ rfl (Nat.le_of_ble_eq_true rfl) rfl (fun X hX hF => ?_)
  have g : G (fun r : CM => Fx Z X none none r mm lm) (f_X5_begin cm C a2) (J Z X 4 cm mm lm 0 [some (.ref (ad Z C 17)), some (.ref (ad Z C 0)), some (.int a2), none] []) := by
    unfold f_X5_begin
    refine g_iconst hX dX5_begin_0 ic_0 ?_
    refine g_istore_n hX dX5_begin_1 rfl (Nat.le_of_ble_eq_true rfl) rfl ?_
    refine g_loop (Hd := fun s : Int32 × CM => J Z X 4 s.2 mm lm 2 [some (.ref (ad Z C 17)), some (.ref (ad Z C 0)), some (.int a2), some (.int s.1)] []) (Ex := fun s : Int32 × CM => J Z X 4 s.2 mm lm 24 [some (.ref (ad Z C 17)), some (.ref (ad Z C 0)), some (.int a2), some (.int s.1)] []) ?_ ?_
    · rintro ⟨s2_3, c2_⟩
      show G _ (f_X5_begin_B2 C s2_3 c2_) (J Z X 4 c2_ mm lm 2 [some (.ref (ad Z C 17)), some (.ref (ad Z C 0)), some (.int a2), some (.int s2_3)] [])
      unfold f_X5_begin_B2
      refine g_iload_n hX dX5_begin_2 rfl rfl ?_
      refine g_aload_n hX dX5_begin_3 rfl rfl ?_
      refine g_get hX fi_5_9 (okC hC (by decide)) (e0_17 hC) rfl dX5_begin_4 ?_
      refine g_alen (v := 16) hX (okC hC (by decide)) (e0_18 hC) (by decide) dX5_begin_7 ?_
      refine g_icmp_ge hX dX5_begin_8 (fun h8 => ?_) (fun h8 => ?_)
      · exact g_wk (lv0 := [some (.ref (ad Z C 17)), some (.ref (ad Z C 0)), some (.int a2), some (.int s2_3)]) ⟨rfl, rfl, rfl, rfl, trivial⟩ (g_end (fun h => h))
      · refine g_aload_n hX dX5_begin_11 rfl rfl ?_
        refine g_get hX fi_5_9 (okC hC (by decide)) (e0_17 hC) rfl dX5_begin_12 ?_
        refine g_iload_n hX dX5_begin_15 rfl rfl ?_
        refine g_iconst hX dX5_begin_16 ic_0 ?_
        refine g_iastC hX (okC hC (by decide)) (n32C hC) (s0_18 hC Z) dX5_begin_17 ?_
        intro g17 hg17
        refine g_iinc hX dX5_begin_18 ic_1 rfl (Nat.le_of_ble_eq_true rfl) rfl ?_
        refine g_goto hX dX5_begin_21 ?_
        exact g_wk (lv0 := [some (.ref (ad Z C 17)), some (.ref (ad Z C 0)), some (.int a2), some (.int (s2_3 + 1))]) ⟨rfl, rfl, rfl, rfl, trivial⟩ (g_end (fun h => h))
    · rintro ⟨s2_3, c2_⟩
      show G _ _ (J Z X 4 c2_ mm lm 24 [some (.ref (ad Z C 17)), some (.ref (ad Z C 0)), some (.int a2), some (.int s2_3)] [])
      refine g_aload_n hX dX5_begin_24 rfl rfl ?_
      refine g_get hX fi_5_20 (okC hC (by decide)) (e0_17 hC) rfl dX5_begin_25 ?_
      refine g_iconst hX dX5_begin_28 ic_0 ?_
      refine g_callV hX (As := [.int 0]) (fun _ => none) (fun r => r) (fun _ => mm) (fun _ => lm) (fun r hr => c_X4_fill (rw0_19 hC) hr) mi_X4_fill ml_5_24 (rw0_19 hC).1 (eR_0 (rw0_19 hC)) rfl rfl rfl rfl rfl (Nat.le_of_ble_eq_true rfl) dX5_begin_29 ?_
      intro r29 hr29
      refine g_iconst hX dX5_begin_32 ic_0 ?_
      refine g_istore_n hX dX5_begin_33 rfl (Nat.le_of_ble_eq_true rfl) rfl ?_
      refine g_loop (Hd := fun s : Int32 × CM => J Z X 4 s.2 mm lm 34 [some (.ref (ad Z C 17)), some (.ref (ad Z C 0)), some (.int a2), some (.int s.1)] []) (Ex := fun s : Int32 × CM => J Z X 4 s.2 mm lm 56 [some (.ref (ad Z C 17)), some (.ref (ad Z C 0)), some (.int a2), some (.int s.1)] []) ?_ ?_
      · rintro ⟨s34_3, c34_⟩
        show G _ (f_X5_begin_B34 C a2 s34_3 c34_) (J Z X 4 c34_ mm lm 34 [some (.ref (ad Z C 17)), some (.ref (ad Z C 0)), some (.int a2), some (.int s34_3)] [])
        unfold f_X5_begin_B34
        refine g_iload_n hX dX5_begin_34 rfl rfl ?_
        refine g_iconst hX dX5_begin_35 ic_4 ?_
        refine g_icmp_ge hX dX5_begin_36 (fun h36 => ?_) (fun h36 => ?_)
        · exact g_wk (lv0 := [some (.ref (ad Z C 17)), some (.ref (ad Z C 0)), some (.int a2), some (.int s34_3)]) ⟨rfl, rfl, rfl, rfl, trivial⟩ (g_end (fun h => h))
        · refine g_aload_n hX dX5_begin_39 rfl rfl ?_
          refine g_iload_n hX dX5_begin_40 rfl rfl ?_
          refine g_aload_n hX dX5_begin_41 rfl rfl ?_
          refine g_iload_n hX dX5_begin_42 rfl rfl ?_
          refine g_iload_n hX dX5_begin_43 rfl rfl ?_
          refine g_callV hX (As := [.int a2, .int s34_3]) (fun r => (some (.int r))) (fun _ => c34_) (fun _ => mm) (fun _ => lm) (fun r hr => c_X0_freeReserved hC hr) mi_X0_freeReserved ml_5_27 (okC hC (by decide)) (e0_0 hC) rfl rfl rfl rfl rfl (Nat.le_of_ble_eq_true rfl) dX5_begin_44 ?_
          intro x44 hx44
          refine g_callV hX (As := [.int s34_3, .int x44]) (fun _ => none) (fun r => r) (fun _ => mm) (fun _ => lm) (fun r hr => c_X5_changeLeft hC hr) mi_X5_changeLeft ml_5_33 (okC hC (by decide)) (e0_17 hC) rfl rfl rfl rfl rfl (Nat.le_of_ble_eq_true rfl) dX5_begin_47 ?_
          intro r47 hr47
          refine g_iinc hX dX5_begin_50 ic_1 rfl (Nat.le_of_ble_eq_true rfl) rfl ?_
          refine g_goto hX dX5_begin_53 ?_
          exact g_wk (lv0 := [some (.ref (ad Z C 17)), some (.ref (ad Z C 0)), some (.int a2), some (.int (s34_3 + 1))]) ⟨rfl, rfl, rfl, rfl, trivial⟩ (g_end (fun h => h))
      · rintro ⟨s34_3, c34_⟩
        show G _ _ (J Z X 4 c34_ mm lm 56 [some (.ref (ad Z C 17)), some (.ref (ad Z C 0)), some (.int a2), some (.int s34_3)] [])
        exact g_vret hX (fun h => h) dX5_begin_56
  exact g r h hF

def f_X5_assign_B15 (C : Nat) (a1 : Int32) (x1 : Int32) (s15_3 : Int32) (c15_ : CM) : Option (((Int32 × CM) ⊕ (Int32 × CM)) ⊕ (Int32 × CM)) :=
  if 4 ≤ s15_3 then
    some (.inl (.inl (s15_3, c15_)))
  else
    if ((a1 >>> (s15_3 &&& 31)) &&& 1) = 1 then
      (f_X4_get c15_ C 19 4 s15_3).bind fun x34 =>
      if x34 ≤ 0 then
        some (.inr (s15_3 + 1, c15_))
      else
        (f_X5_changeLeft c15_ C s15_3 (-1)).bind fun r43 =>
        (f_X5_fill r43 C).bind fun x47 =>
        if x47 = (x1 - 1) then
          some (.inl (.inr (s15_3, r43)))
        else
          (f_X5_changeLeft r43 C s15_3 1).bind fun r59 =>
          some (.inr (s15_3 + 1, r59))
    else
      some (.inr (s15_3 + 1, c15_))

def f_X5_assign (cm : CM) (C : Nat) (a1 : Int32) : Option (Int32 × CM) :=
  (f_X5_fill cm C).bind fun x1 =>
  (f_X5_add cm C a1 (-1)).bind fun r10 =>
  (itr (fun s : Int32 × CM => f_X5_assign_B15 C a1 x1 s.1 s.2) 2000 (0, r10)).bind fun o => match o with
  | .inr r => some r
  | .inl (s15_3, c15_) =>
  some ((-9), c15_)

abbrev rm_X5_assign : Room := { frames := 2, cells := 0, slots := 0, locals := 45 }
set_option maxHeartbeats 2000000 in
set_option maxRecDepth 20000 in
theorem c_X5_assign {Z : ZC} {cm : CM} {mm : MM} {lm : LM} {C : Nat} {a1 : Int32} {r : Int32 × CM} (hC : isCh C) (h : f_X5_assign cm C a1 = some r) : Ct Z yX5_assign cX5_assign 4 (some .int) rm_X5_assign [.ref (ad Z C 17), .int a1] cm mm lm (some (.int r.1)) r.2 mm lm := by
  refine Ct_of (own := RX5) [some (.ref (ad Z C 17)), some (.int a1), none, none] ⟨by decide, rfl⟩ rfl (Nat.le_of_ble_eq_true rfl) rfl (fun X hX hF => ?_)
  have g : G (fun r : Int32 × CM => Fx Z X (some .int) (some (.int r.1)) r.2 mm lm) (f_X5_assign cm C a1) (J Z X 4 cm mm lm 0 [some (.ref (ad Z C 17)), some (.int a1), none, none] []) := by
    unfold f_X5_assign
    refine g_aload_n hX dX5_assign_0 rfl rfl ?_
    refine g_callV hX (As := []) (fun r => (some (.int r))) (fun _ => cm) (fun _ => mm) (fun _ => lm) (fun r hr => c_X5_fill hC hr) mi_X5_fill ml_5_42 (okC hC (by decide)) (e0_17 hC) rfl rfl rfl rfl rfl (Nat.le_of_ble_eq_true rfl) dX5_assign_1 ?_
    intro x1 hx1
    refine g_iconst hX dX5_assign_4 ic_1 ?_
    refine g_isub hX dX5_assign_5 ?_
    refine g_istore_n hX dX5_assign_6 rfl (Nat.le_of_ble_eq_true rfl) rfl ?_
    refine g_aload_n hX dX5_assign_7 rfl rfl ?_
    refine g_iload_n hX dX5_assign_8 rfl rfl ?_
    refine g_iconst hX dX5_assign_9 ic_m1 ?_
    refine g_callV hX (As := [.int a1, .int (-1)]) (fun _ => none) (fun r => r) (fun _ => mm) (fun _ => lm) (fun r hr => c_X5_add hC hr) mi_X5_add ml_5_45 (okC hC (by decide)) (e0_17 hC) rfl rfl rfl rfl rfl (Nat.le_of_ble_eq_true rfl) dX5_assign_10 ?_
    intro r10 hr10
    refine g_iconst hX dX5_assign_13 ic_0 ?_
    refine g_istore_n hX dX5_assign_14 rfl (Nat.le_of_ble_eq_true rfl) rfl ?_
    refine g_loop (Hd := fun s : Int32 × CM => J Z X 4 s.2 mm lm 15 [some (.ref (ad Z C 17)), some (.int a1), some (.int (x1 - 1)), some (.int s.1)] []) (Ex := fun o : (Int32 × CM) ⊕ (Int32 × CM) => match o with | .inl e => J Z X 4 e.2 mm lm 68 [some (.ref (ad Z C 17)), some (.int a1), some (.int (x1 - 1)), some (.int e.1)] [] | .inr r => Fx Z X (some .int) (some (.int r.1)) r.2 mm lm) ?_ ?_
    · rintro ⟨s15_3, c15_⟩
      show G _ (f_X5_assign_B15 C a1 x1 s15_3 c15_) (J Z X 4 c15_ mm lm 15 [some (.ref (ad Z C 17)), some (.int a1), some (.int (x1 - 1)), some (.int s15_3)] [])
      unfold f_X5_assign_B15
      refine g_iload_n hX dX5_assign_15 rfl rfl ?_
      refine g_iconst hX dX5_assign_16 ic_4 ?_
      refine g_icmp_ge hX dX5_assign_17 (fun h17 => ?_) (fun h17 => ?_)
      · exact g_wk (lv0 := [some (.ref (ad Z C 17)), some (.int a1), some (.int (x1 - 1)), some (.int s15_3)]) ⟨rfl, rfl, rfl, rfl, trivial⟩ (g_end (fun h => h))
      · refine g_iload_n hX dX5_assign_20 rfl rfl ?_
        refine g_iload_n hX dX5_assign_21 rfl rfl ?_
        refine g_ishr hX dX5_assign_22 ?_
        refine g_iconst hX dX5_assign_23 ic_1 ?_
        refine g_iand hX dX5_assign_24 ?_
        refine g_iconst hX dX5_assign_25 ic_1 ?_
        refine g_icmp_ne hX dX5_assign_26 (fun h26 => ?_) (fun h26 => ?_)
        · refine g_aload_n hX dX5_assign_29 rfl rfl ?_
          refine g_get hX fi_5_20 (okC hC (by decide)) (e0_17 hC) rfl dX5_assign_30 ?_
          refine g_iload_n hX dX5_assign_33 rfl rfl ?_
          refine g_callV hX (As := [.int s15_3]) (fun r => (some (.int r))) (fun _ => c15_) (fun _ => mm) (fun _ => lm) (fun r hr => c_X4_get (rw0_19 hC) hr) mi_X4_get ml_5_48 (rw0_19 hC).1 (eR_0 (rw0_19 hC)) rfl rfl rfl rfl rfl (Nat.le_of_ble_eq_true rfl) dX5_assign_34 ?_
          intro x34 hx34
          refine g_if_le hX dX5_assign_37 (fun h37 => ?_) (fun h37 => ?_)
          · refine g_iinc hX dX5_assign_62 ic_1 rfl (Nat.le_of_ble_eq_true rfl) rfl ?_
            refine g_goto hX dX5_assign_65 ?_
            exact g_wk (lv0 := [some (.ref (ad Z C 17)), some (.int a1), some (.int (x1 - 1)), some (.int (s15_3 + 1))]) ⟨rfl, rfl, rfl, rfl, trivial⟩ (g_end (fun h => h))
          · refine g_aload_n hX dX5_assign_40 rfl rfl ?_
            refine g_iload_n hX dX5_assign_41 rfl rfl ?_
            refine g_iconst hX dX5_assign_42 ic_m1 ?_
            refine g_callV hX (As := [.int s15_3, .int (-1)]) (fun _ => none) (fun r => r) (fun _ => mm) (fun _ => lm) (fun r hr => c_X5_changeLeft hC hr) mi_X5_changeLeft ml_5_33 (okC hC (by decide)) (e0_17 hC) rfl rfl rfl rfl rfl (Nat.le_of_ble_eq_true rfl) dX5_assign_43 ?_
            intro r43 hr43
            refine g_aload_n hX dX5_assign_46 rfl rfl ?_
            refine g_callV hX (As := []) (fun r => (some (.int r))) (fun _ => r43) (fun _ => mm) (fun _ => lm) (fun r hr => c_X5_fill hC hr) mi_X5_fill ml_5_42 (okC hC (by decide)) (e0_17 hC) rfl rfl rfl rfl rfl (Nat.le_of_ble_eq_true rfl) dX5_assign_47 ?_
            intro x47 hx47
            refine g_iload_n hX dX5_assign_50 rfl rfl ?_
            refine g_icmp_ne hX dX5_assign_51 (fun h51 => ?_) (fun h51 => ?_)
            · refine g_iload_n hX dX5_assign_54 rfl rfl ?_
              exact g_iret hX (fun h => h) dX5_assign_55
            · refine g_aload_n hX dX5_assign_56 rfl rfl ?_
              refine g_iload_n hX dX5_assign_57 rfl rfl ?_
              refine g_iconst hX dX5_assign_58 ic_1 ?_
              refine g_callV hX (As := [.int s15_3, .int 1]) (fun _ => none) (fun r => r) (fun _ => mm) (fun _ => lm) (fun r hr => c_X5_changeLeft hC hr) mi_X5_changeLeft ml_5_33 (okC hC (by decide)) (e0_17 hC) rfl rfl rfl rfl rfl (Nat.le_of_ble_eq_true rfl) dX5_assign_59 ?_
              intro r59 hr59
              refine g_iinc hX dX5_assign_62 ic_1 rfl (Nat.le_of_ble_eq_true rfl) rfl ?_
              refine g_goto hX dX5_assign_65 ?_
              exact g_wk (lv0 := [some (.ref (ad Z C 17)), some (.int a1), some (.int (x1 - 1)), some (.int (s15_3 + 1))]) ⟨rfl, rfl, rfl, rfl, trivial⟩ (g_end (fun h => h))
        · refine g_iinc hX dX5_assign_62 ic_1 rfl (Nat.le_of_ble_eq_true rfl) rfl ?_
          refine g_goto hX dX5_assign_65 ?_
          exact g_wk (lv0 := [some (.ref (ad Z C 17)), some (.int a1), some (.int (x1 - 1)), some (.int (s15_3 + 1))]) ⟨rfl, rfl, rfl, rfl, trivial⟩ (g_end (fun h => h))
    · rintro (⟨s15_3, c15_⟩ | r)
      · show G _ _ (J Z X 4 c15_ mm lm 68 [some (.ref (ad Z C 17)), some (.int a1), some (.int (x1 - 1)), some (.int s15_3)] [])
        refine g_bipush hX dX5_assign_68 bp_m9 ?_
        exact g_iret hX (fun h => h) dX5_assign_70
      · exact g_end (fun h => h)
  exact g r h hF
