def f_X3_get (cm : CM) (o : Nat) (a1 a2 : Int32) : Option (Int32) :=
  if (a1 + a2) < 0 then
    some 0
  else
    if 159 ≤ (a1 + a2) then
      some 0
    else
      (rd 159 (cm o 1) (a1 + a2)).bind fun x22 =>
      some x22

abbrev rm_X3_get : Room := { frames := 0, cells := 0, slots := 0, locals := 0 }
set_option maxHeartbeats 2000000 in
set_option maxRecDepth 20000 in
theorem c_X3_get {Z : ZC} {cm : CM} {mm : MM} {lm : LM} {o : Nat} {a1 a2 : Int32} {r : Int32} (hO : isOf o) (h : f_X3_get cm o a1 a2 = some r) : Ct Z yX3_get cX3_get 4 (some .int) rm_X3_get [.ref (ad Z o 0), .int a1, .int a2] cm mm lm (some (.int r)) cm mm lm := by
  refine Ct_of (own := RX3) [some (.ref (ad Z o 0)), some (.int a1), some (.int a2), none] ⟨by decide, rfl⟩ rfl (Nat.le_of_ble_eq_true rfl) rfl (fun X hX hF => ?_)
  have g : G (fun r : Int32 => Fx Z X (some .int) (some (.int r)) cm mm lm) (f_X3_get cm o a1 a2) (J Z X 4 cm mm lm 0 [some (.ref (ad Z o 0)), some (.int a1), some (.int a2), none] []) := by
    unfold f_X3_get
    refine g_iload_n hX dX3_get_0 rfl rfl ?_
    refine g_iload_n hX dX3_get_1 rfl rfl ?_
    refine g_iadd hX dX3_get_2 ?_
    refine g_istore_n hX dX3_get_3 rfl (Nat.le_of_ble_eq_true rfl) rfl ?_
    refine g_iload_n hX dX3_get_4 rfl rfl ?_
    refine g_if_lt hX dX3_get_5 (fun h5 => ?_) (fun h5 => ?_)
    · refine g_iconst hX dX3_get_26 ic_0 ?_
      exact g_iret hX (fun h => h) dX3_get_27
    · refine g_iload_n hX dX3_get_8 rfl rfl ?_
      refine g_aload_n hX dX3_get_9 rfl rfl ?_
      refine g_get hX fi_3_9 (okO hO (by decide)) (e3_0 hO) rfl dX3_get_10 ?_
      refine g_alen (v := 159) hX (okO hO (by decide)) (e3_1 hO) (by decide) dX3_get_13 ?_
      refine g_icmp_ge hX dX3_get_14 (fun h14 => ?_) (fun h14 => ?_)
      · refine g_iconst hX dX3_get_26 ic_0 ?_
        exact g_iret hX (fun h => h) dX3_get_27
      · refine g_aload_n hX dX3_get_17 rfl rfl ?_
        refine g_get hX fi_3_9 (okO hO (by decide)) (e3_0 hO) rfl dX3_get_18 ?_
        refine g_iload_n hX dX3_get_21 rfl rfl ?_
        refine g_iald hX (okO hO (by decide)) (e3_1 hO) dX3_get_22 ?_
        intro x22 hx22
        refine g_goto hX dX3_get_23 ?_
        exact g_iret hX (fun h => h) dX3_get_27
  exact g r h hF

def f_X3_set (cm : CM) (o : Nat) (a1 a2 a3 : Int32) : Option (CM) :=
  if (a1 + a2) < 0 then
    some cm
  else
    if 159 ≤ (a1 + a2) then
      some cm
    else
      (wr 159 (cm o 1) (a1 + a2) a3).bind fun g27 =>
      some (u3 cm o 1 g27)

abbrev rm_X3_set : Room := { frames := 0, cells := 0, slots := 0, locals := 0 }
set_option maxHeartbeats 2000000 in
set_option maxRecDepth 20000 in
theorem c_X3_set {Z : ZC} {cm : CM} {mm : MM} {lm : LM} {o : Nat} {a1 a2 a3 : Int32} {r : CM} (hO : isOf o) (h : f_X3_set cm o a1 a2 a3 = some r) : Ct Z yX3_set cX3_set 5 none rm_X3_set [.ref (ad Z o 0), .int a1, .int a2, .int a3] cm mm lm none r mm lm := by
  refine Ct_of (own := RX3) [some (.ref (ad Z o 0)), some (.int a1), some (.int a2), some (.int a3), none] ⟨by decide, rfl⟩ rfl (Nat.le_of_ble_eq_true rfl) rfl (fun X hX hF => ?_)
  have g : G (fun r : CM => Fx Z X none none r mm lm) (f_X3_set cm o a1 a2 a3) (J Z X 5 cm mm lm 0 [some (.ref (ad Z o 0)), some (.int a1), some (.int a2), some (.int a3), none] []) := by
    unfold f_X3_set
    refine g_iload_n hX dX3_set_0 rfl rfl ?_
    refine g_iload_n hX dX3_set_1 rfl rfl ?_
    refine g_iadd hX dX3_set_2 ?_
    refine g_istore hX dX3_set_3 (Nat.le_of_ble_eq_true rfl) rfl ?_
    refine g_iload hX dX3_set_5 rfl ?_
    refine g_if_lt hX dX3_set_7 (fun h7 => ?_) (fun h7 => ?_)
    · exact g_vret hX (fun h => h) dX3_set_28
    · refine g_iload hX dX3_set_10 rfl ?_
      refine g_aload_n hX dX3_set_12 rfl rfl ?_
      refine g_get hX fi_3_9 (okO hO (by decide)) (e3_0 hO) rfl dX3_set_13 ?_
      refine g_alen (v := 159) hX (okO hO (by decide)) (e3_1 hO) (by decide) dX3_set_16 ?_
      refine g_icmp_ge hX dX3_set_17 (fun h17 => ?_) (fun h17 => ?_)
      · exact g_vret hX (fun h => h) dX3_set_28
      · refine g_aload_n hX dX3_set_20 rfl rfl ?_
        refine g_get hX fi_3_9 (okO hO (by decide)) (e3_0 hO) rfl dX3_set_21 ?_
        refine g_iload hX dX3_set_24 rfl ?_
        refine g_iload_n hX dX3_set_26 rfl rfl ?_
        refine g_iastC hX (okO hO (by decide)) (n32O hO) (s3_1 hO Z) dX3_set_27 ?_
        intro g27 hg27
        exact g_vret hX (fun h => h) dX3_set_28
  exact g r h hF

def f_X3_setOrder (cm : CM) (o : Nat) (a1 a2 a3 a4 : Int32) : Option (CM) :=
  (f_X3_set cm o 152 0 a1).bind fun r6 =>
  (f_X3_set r6 o 152 1 a2).bind fun r15 =>
  (f_X3_set r15 o 152 2 a3).bind fun r24 =>
  (f_X3_set r24 o 152 3 a4).bind fun r34 =>
  some r34

abbrev rm_X3_setOrder : Room := { frames := 1, cells := 0, slots := 0, locals := 24 }
set_option maxHeartbeats 2000000 in
set_option maxRecDepth 20000 in
theorem c_X3_setOrder {Z : ZC} {cm : CM} {mm : MM} {lm : LM} {o : Nat} {a1 a2 a3 a4 : Int32} {r : CM} (hO : isOf o) (h : f_X3_setOrder cm o a1 a2 a3 a4 = some r) : Ct Z yX3_setOrder cX3_setOrder 5 none rm_X3_setOrder [.ref (ad Z o 0), .int a1, .int a2, .int a3, .int a4] cm mm lm none r mm lm := by
  refine Ct_of (own := RX3) [some (.ref (ad Z o 0)), some (.int a1), some (.int a2), some (.int a3), some (.int a4)] ⟨by decide, rfl⟩ rfl (Nat.le_of_ble_eq_true rfl) rfl (fun X hX hF => ?_)
  have g : G (fun r : CM => Fx Z X none none r mm lm) (f_X3_setOrder cm o a1 a2 a3 a4) (J Z X 5 cm mm lm 0 [some (.ref (ad Z o 0)), some (.int a1), some (.int a2), some (.int a3), some (.int a4)] []) := by
    unfold f_X3_setOrder
    refine g_aload_n hX dX3_setOrder_0 rfl rfl ?_
    refine g_sipush hX dX3_setOrder_1 sp_152 ?_
    refine g_iconst hX dX3_setOrder_4 ic_0 ?_
    refine g_iload_n hX dX3_setOrder_5 rfl rfl ?_
    refine g_callV hX (As := [.int 152, .int 0, .int a1]) (fun _ => none) (fun r => r) (fun _ => mm) (fun _ => lm) (fun r hr => c_X3_set hO hr) mi_X3_set ml_3_15 (okO hO (by decide)) (e3_0 hO) rfl rfl rfl rfl rfl (Nat.le_of_ble_eq_true rfl) dX3_setOrder_6 ?_
    intro r6 hr6
    refine g_aload_n hX dX3_setOrder_9 rfl rfl ?_
    refine g_sipush hX dX3_setOrder_10 sp_152 ?_
    refine g_iconst hX dX3_setOrder_13 ic_1 ?_
    refine g_iload_n hX dX3_setOrder_14 rfl rfl ?_
    refine g_callV hX (As := [.int 152, .int 1, .int a2]) (fun _ => none) (fun r => r) (fun _ => mm) (fun _ => lm) (fun r hr => c_X3_set hO hr) mi_X3_set ml_3_15 (okO hO (by decide)) (e3_0 hO) rfl rfl rfl rfl rfl (Nat.le_of_ble_eq_true rfl) dX3_setOrder_15 ?_
    intro r15 hr15
    refine g_aload_n hX dX3_setOrder_18 rfl rfl ?_
    refine g_sipush hX dX3_setOrder_19 sp_152 ?_
    refine g_iconst hX dX3_setOrder_22 ic_2 ?_
    refine g_iload_n hX dX3_setOrder_23 rfl rfl ?_
    refine g_callV hX (As := [.int 152, .int 2, .int a3]) (fun _ => none) (fun r => r) (fun _ => mm) (fun _ => lm) (fun r hr => c_X3_set hO hr) mi_X3_set ml_3_15 (okO hO (by decide)) (e3_0 hO) rfl rfl rfl rfl rfl (Nat.le_of_ble_eq_true rfl) dX3_setOrder_24 ?_
    intro r24 hr24
    refine g_aload_n hX dX3_setOrder_27 rfl rfl ?_
    refine g_sipush hX dX3_setOrder_28 sp_152 ?_
    refine g_iconst hX dX3_setOrder_31 ic_3 ?_
    refine g_iload hX dX3_setOrder_32 rfl ?_
    refine g_callV hX (As := [.int 152, .int 3, .int a4]) (fun _ => none) (fun r => r) (fun _ => mm) (fun _ => lm) (fun r hr => c_X3_set hO hr) mi_X3_set ml_3_15 (okO hO (by decide)) (e3_0 hO) rfl rfl rfl rfl rfl (Nat.le_of_ble_eq_true rfl) dX3_setOrder_34 ?_
    intro r34 hr34
    exact g_vret hX (fun h => h) dX3_setOrder_37
  exact g r h hF

def f_X3_dismiss (cm : CM) (o : Nat) (a1 a2 : Int32) : Option (CM) :=
  (f_X3_set cm o 64 a1 a2).bind fun r5 =>
  (f_X3_set r5 o 80 a1 (-9)).bind fun r14 =>
  (f_X3_set r14 o 96 a1 (-9)).bind fun r23 =>
  (f_X3_set r23 o 112 a1 (-9)).bind fun r32 =>
  some r32

abbrev rm_X3_dismiss : Room := { frames := 1, cells := 0, slots := 0, locals := 24 }
set_option maxHeartbeats 2000000 in
set_option maxRecDepth 20000 in
theorem c_X3_dismiss {Z : ZC} {cm : CM} {mm : MM} {lm : LM} {o : Nat} {a1 a2 : Int32} {r : CM} (hO : isOf o) (h : f_X3_dismiss cm o a1 a2 = some r) : Ct Z yX3_dismiss cX3_dismiss 3 none rm_X3_dismiss [.ref (ad Z o 0), .int a1, .int a2] cm mm lm none r mm lm := by
  refine Ct_of (own := RX3) [some (.ref (ad Z o 0)), some (.int a1), some (.int a2)] ⟨by decide, rfl⟩ rfl (Nat.le_of_ble_eq_true rfl) rfl (fun X hX hF => ?_)
  have g : G (fun r : CM => Fx Z X none none r mm lm) (f_X3_dismiss cm o a1 a2) (J Z X 3 cm mm lm 0 [some (.ref (ad Z o 0)), some (.int a1), some (.int a2)] []) := by
    unfold f_X3_dismiss
    refine g_aload_n hX dX3_dismiss_0 rfl rfl ?_
    refine g_bipush hX dX3_dismiss_1 bp_64 ?_
    refine g_iload_n hX dX3_dismiss_3 rfl rfl ?_
    refine g_iload_n hX dX3_dismiss_4 rfl rfl ?_
    refine g_callV hX (As := [.int 64, .int a1, .int a2]) (fun _ => none) (fun r => r) (fun _ => mm) (fun _ => lm) (fun r hr => c_X3_set hO hr) mi_X3_set ml_3_15 (okO hO (by decide)) (e3_0 hO) rfl rfl rfl rfl rfl (Nat.le_of_ble_eq_true rfl) dX3_dismiss_5 ?_
    intro r5 hr5
    refine g_aload_n hX dX3_dismiss_8 rfl rfl ?_
    refine g_bipush hX dX3_dismiss_9 bp_80 ?_
    refine g_iload_n hX dX3_dismiss_11 rfl rfl ?_
    refine g_bipush hX dX3_dismiss_12 bp_m9 ?_
    refine g_callV hX (As := [.int 80, .int a1, .int (-9)]) (fun _ => none) (fun r => r) (fun _ => mm) (fun _ => lm) (fun r hr => c_X3_set hO hr) mi_X3_set ml_3_15 (okO hO (by decide)) (e3_0 hO) rfl rfl rfl rfl rfl (Nat.le_of_ble_eq_true rfl) dX3_dismiss_14 ?_
    intro r14 hr14
    refine g_aload_n hX dX3_dismiss_17 rfl rfl ?_
    refine g_bipush hX dX3_dismiss_18 bp_96 ?_
    refine g_iload_n hX dX3_dismiss_20 rfl rfl ?_
    refine g_bipush hX dX3_dismiss_21 bp_m9 ?_
    refine g_callV hX (As := [.int 96, .int a1, .int (-9)]) (fun _ => none) (fun r => r) (fun _ => mm) (fun _ => lm) (fun r hr => c_X3_set hO hr) mi_X3_set ml_3_15 (okO hO (by decide)) (e3_0 hO) rfl rfl rfl rfl rfl (Nat.le_of_ble_eq_true rfl) dX3_dismiss_23 ?_
    intro r23 hr23
    refine g_aload_n hX dX3_dismiss_26 rfl rfl ?_
    refine g_bipush hX dX3_dismiss_27 bp_112 ?_
    refine g_iload_n hX dX3_dismiss_29 rfl rfl ?_
    refine g_bipush hX dX3_dismiss_30 bp_m9 ?_
    refine g_callV hX (As := [.int 112, .int a1, .int (-9)]) (fun _ => none) (fun r => r) (fun _ => mm) (fun _ => lm) (fun r hr => c_X3_set hO hr) mi_X3_set ml_3_15 (okO hO (by decide)) (e3_0 hO) rfl rfl rfl rfl rfl (Nat.le_of_ble_eq_true rfl) dX3_dismiss_32 ?_
    intro r32 hr32
    exact g_vret hX (fun h => h) dX3_dismiss_35
  exact g r h hF

def f_X3_people (cm : CM) (o : Nat) : Option (Int32) :=
  (f_X3_get cm o 158 0).bind fun x5 =>
  some x5

abbrev rm_X3_people : Room := { frames := 1, cells := 0, slots := 0, locals := 23 }
set_option maxHeartbeats 2000000 in
set_option maxRecDepth 20000 in
theorem c_X3_people {Z : ZC} {cm : CM} {mm : MM} {lm : LM} {o : Nat} {r : Int32} (hO : isOf o) (h : f_X3_people cm o = some r) : Ct Z yX3_people cX3_people 1 (some .int) rm_X3_people [.ref (ad Z o 0)] cm mm lm (some (.int r)) cm mm lm := by
  refine Ct_of (own := RX3) [some (.ref (ad Z o 0))] ⟨by decide, rfl⟩ rfl (Nat.le_of_ble_eq_true rfl) rfl (fun X hX hF => ?_)
  have g : G (fun r : Int32 => Fx Z X (some .int) (some (.int r)) cm mm lm) (f_X3_people cm o) (J Z X 1 cm mm lm 0 [some (.ref (ad Z o 0))] []) := by
    unfold f_X3_people
    refine g_aload_n hX dX3_people_0 rfl rfl ?_
    refine g_sipush hX dX3_people_1 sp_158 ?_
    refine g_iconst hX dX3_people_4 ic_0 ?_
    refine g_callV hX (As := [.int 158, .int 0]) (fun r => (some (.int r))) (fun _ => cm) (fun _ => mm) (fun _ => lm) (fun r hr => c_X3_get hO hr) mi_X3_get ml_3_25 (okO hO (by decide)) (e3_0 hO) rfl rfl rfl rfl rfl (Nat.le_of_ble_eq_true rfl) dX3_people_5 ?_
    intro x5 hx5
    exact g_iret hX (fun h => h) dX3_people_8
  exact g r h hF

def f_X3_isActive (cm : CM) (o : Nat) (a1 : Int32) : Option (Int32) :=
  (f_X3_get cm o 64 a1).bind fun x4 =>
  if 2 < x4 then
    some 0
  else
    some 1

abbrev rm_X3_isActive : Room := { frames := 1, cells := 0, slots := 0, locals := 23 }
set_option maxHeartbeats 2000000 in
set_option maxRecDepth 20000 in
theorem c_X3_isActive {Z : ZC} {cm : CM} {mm : MM} {lm : LM} {o : Nat} {a1 : Int32} {r : Int32} (hO : isOf o) (h : f_X3_isActive cm o a1 = some r) : Ct Z yX3_isActive cX3_isActive 2 (some .boolean) rm_X3_isActive [.ref (ad Z o 0), .int a1] cm mm lm (some (.int r)) cm mm lm := by
  refine Ct_of (own := RX3) [some (.ref (ad Z o 0)), some (.int a1)] ⟨by decide, rfl⟩ rfl (Nat.le_of_ble_eq_true rfl) rfl (fun X hX hF => ?_)
  have g : G (fun r : Int32 => Fx Z X (some .boolean) (some (.int r)) cm mm lm) (f_X3_isActive cm o a1) (J Z X 2 cm mm lm 0 [some (.ref (ad Z o 0)), some (.int a1)] []) := by
    unfold f_X3_isActive
    refine g_aload_n hX dX3_isActive_0 rfl rfl ?_
    refine g_bipush hX dX3_isActive_1 bp_64 ?_
    refine g_iload_n hX dX3_isActive_3 rfl rfl ?_
    refine g_callV hX (As := [.int 64, .int a1]) (fun r => (some (.int r))) (fun _ => cm) (fun _ => mm) (fun _ => lm) (fun r hr => c_X3_get hO hr) mi_X3_get ml_3_25 (okO hO (by decide)) (e3_0 hO) rfl rfl rfl rfl rfl (Nat.le_of_ble_eq_true rfl) dX3_isActive_4 ?_
    intro x4 hx4
    refine g_iconst hX dX3_isActive_7 ic_2 ?_
    refine g_icmp_gt hX dX3_isActive_8 (fun h8 => ?_) (fun h8 => ?_)
    · refine g_iconst hX dX3_isActive_15 ic_0 ?_
      exact g_zret hX (by decide) (fun h => h) dX3_isActive_16
    · refine g_iconst hX dX3_isActive_11 ic_1 ?_
      refine g_goto hX dX3_isActive_12 ?_
      exact g_zret hX (by decide) (fun h => h) dX3_isActive_16
  exact g r h hF

def f_X3_rankKey (cm : CM) (o : Nat) (a1 : Int32) : Option (Int32) :=
  (f_X3_get cm o 0 a1).bind fun x5 =>
  (f_X3_get cm o 16 a1).bind fun x19 =>
  some (((((99 - x5) * 1000) + x19) * 16) + a1)

abbrev rm_X3_rankKey : Room := { frames := 1, cells := 0, slots := 0, locals := 23 }
set_option maxHeartbeats 2000000 in
set_option maxRecDepth 20000 in
theorem c_X3_rankKey {Z : ZC} {cm : CM} {mm : MM} {lm : LM} {o : Nat} {a1 : Int32} {r : Int32} (hO : isOf o) (h : f_X3_rankKey cm o a1 = some r) : Ct Z yX3_rankKey cX3_rankKey 3 (some .int) rm_X3_rankKey [.ref (ad Z o 0), .int a1] cm mm lm (some (.int r)) cm mm lm := by
  refine Ct_of (own := RX3) [some (.ref (ad Z o 0)), some (.int a1), none] ⟨by decide, rfl⟩ rfl (Nat.le_of_ble_eq_true rfl) rfl (fun X hX hF => ?_)
  have g : G (fun r : Int32 => Fx Z X (some .int) (some (.int r)) cm mm lm) (f_X3_rankKey cm o a1) (J Z X 3 cm mm lm 0 [some (.ref (ad Z o 0)), some (.int a1), none] []) := by
    unfold f_X3_rankKey
    refine g_bipush hX dX3_rankKey_0 bp_99 ?_
    refine g_aload_n hX dX3_rankKey_2 rfl rfl ?_
    refine g_iconst hX dX3_rankKey_3 ic_0 ?_
    refine g_iload_n hX dX3_rankKey_4 rfl rfl ?_
    refine g_callV hX (As := [.int 0, .int a1]) (fun r => (some (.int r))) (fun _ => cm) (fun _ => mm) (fun _ => lm) (fun r hr => c_X3_get hO hr) mi_X3_get ml_3_25 (okO hO (by decide)) (e3_0 hO) rfl rfl rfl rfl rfl (Nat.le_of_ble_eq_true rfl) dX3_rankKey_5 ?_
    intro x5 hx5
    refine g_isub hX dX3_rankKey_8 ?_
    refine g_istore_n hX dX3_rankKey_9 rfl (Nat.le_of_ble_eq_true rfl) rfl ?_
    refine g_iload_n hX dX3_rankKey_10 rfl rfl ?_
    refine g_sipush hX dX3_rankKey_11 sp_1000 ?_
    refine g_imul hX dX3_rankKey_14 ?_
    refine g_aload_n hX dX3_rankKey_15 rfl rfl ?_
    refine g_bipush hX dX3_rankKey_16 bp_16 ?_
    refine g_iload_n hX dX3_rankKey_18 rfl rfl ?_
    refine g_callV hX (As := [.int 16, .int a1]) (fun r => (some (.int r))) (fun _ => cm) (fun _ => mm) (fun _ => lm) (fun r hr => c_X3_get hO hr) mi_X3_get ml_3_25 (okO hO (by decide)) (e3_0 hO) rfl rfl rfl rfl rfl (Nat.le_of_ble_eq_true rfl) dX3_rankKey_19 ?_
    intro x19 hx19
    refine g_iadd hX dX3_rankKey_22 ?_
    refine g_bipush hX dX3_rankKey_23 bp_16 ?_
    refine g_imul hX dX3_rankKey_25 ?_
    refine g_iload_n hX dX3_rankKey_26 rfl rfl ?_
    refine g_iadd hX dX3_rankKey_27 ?_
    exact g_iret hX (fun h => h) dX3_rankKey_28
  exact g r h hF

def f_X3_isAhead (cm : CM) (o : Nat) (a1 a2 : Int32) : Option (Int32) :=
  (f_X3_rankKey cm o a1).bind fun x2 =>
  (f_X3_rankKey cm o a2).bind fun x7 =>
  if x7 ≤ x2 then
    some 0
  else
    some 1

abbrev rm_X3_isAhead : Room := { frames := 2, cells := 0, slots := 0, locals := 45 }
set_option maxHeartbeats 2000000 in
set_option maxRecDepth 20000 in
theorem c_X3_isAhead {Z : ZC} {cm : CM} {mm : MM} {lm : LM} {o : Nat} {a1 a2 : Int32} {r : Int32} (hO : isOf o) (h : f_X3_isAhead cm o a1 a2 = some r) : Ct Z yX3_isAhead cX3_isAhead 3 (some .boolean) rm_X3_isAhead [.ref (ad Z o 0), .int a1, .int a2] cm mm lm (some (.int r)) cm mm lm := by
  refine Ct_of (own := RX3) [some (.ref (ad Z o 0)), some (.int a1), some (.int a2)] ⟨by decide, rfl⟩ rfl (Nat.le_of_ble_eq_true rfl) rfl (fun X hX hF => ?_)
  have g : G (fun r : Int32 => Fx Z X (some .boolean) (some (.int r)) cm mm lm) (f_X3_isAhead cm o a1 a2) (J Z X 3 cm mm lm 0 [some (.ref (ad Z o 0)), some (.int a1), some (.int a2)] []) := by
    unfold f_X3_isAhead
    refine g_aload_n hX dX3_isAhead_0 rfl rfl ?_
    refine g_iload_n hX dX3_isAhead_1 rfl rfl ?_
    refine g_callV hX (As := [.int a1]) (fun r => (some (.int r))) (fun _ => cm) (fun _ => mm) (fun _ => lm) (fun r hr => c_X3_rankKey hO hr) mi_X3_rankKey ml_3_29 (okO hO (by decide)) (e3_0 hO) rfl rfl rfl rfl rfl (Nat.le_of_ble_eq_true rfl) dX3_isAhead_2 ?_
    intro x2 hx2
    refine g_aload_n hX dX3_isAhead_5 rfl rfl ?_
    refine g_iload_n hX dX3_isAhead_6 rfl rfl ?_
    refine g_callV hX (As := [.int a2]) (fun r => (some (.int r))) (fun _ => cm) (fun _ => mm) (fun _ => lm) (fun r hr => c_X3_rankKey hO hr) mi_X3_rankKey ml_3_29 (okO hO (by decide)) (e3_0 hO) rfl rfl rfl rfl rfl (Nat.le_of_ble_eq_true rfl) dX3_isAhead_7 ?_
    intro x7 hx7
    refine g_icmp_ge hX dX3_isAhead_10 (fun h10 => ?_) (fun h10 => ?_)
    · refine g_iconst hX dX3_isAhead_17 ic_0 ?_
      exact g_zret hX (by decide) (fun h => h) dX3_isAhead_18
    · refine g_iconst hX dX3_isAhead_13 ic_1 ?_
      refine g_goto hX dX3_isAhead_14 ?_
      exact g_zret hX (by decide) (fun h => h) dX3_isAhead_18
  exact g r h hF

def f_X3_countAhead_B11 (cm : CM) (o : Nat) (x2 : Int32) (s11_3 : Int32) (s11_4 : Int32) : Option ((Int32 × Int32) ⊕ (Int32 × Int32)) :=
  (f_X3_people cm o).bind fun x14 =>
  if x14 ≤ s11_4 then
    some (.inl (s11_3, s11_4))
  else
    (f_X3_rankKey cm o s11_4).bind fun x23 =>
    if x2 ≤ x23 then
      some (.inr (s11_3, s11_4 + 1))
    else
      some (.inr (s11_3 + 1, s11_4 + 1))

def f_X3_countAhead (cm : CM) (o : Nat) (a1 : Int32) : Option (Int32) :=
  (f_X3_rankKey cm o a1).bind fun x2 =>
  (itr (fun s : Int32 × Int32 => f_X3_countAhead_B11 cm o x2 s.1 s.2) 2000 (0, 0)).bind fun (s11_3, s11_4) =>
  some s11_3

abbrev rm_X3_countAhead : Room := { frames := 2, cells := 0, slots := 0, locals := 45 }
set_option maxHeartbeats 2000000 in
set_option maxRecDepth 20000 in
theorem c_X3_countAhead {Z : ZC} {cm : CM} {mm : MM} {lm : LM} {o : Nat} {a1 : Int32} {r : Int32} (hO : isOf o) (h : f_X3_countAhead cm o a1 = some r) : Ct Z yX3_countAhead cX3_countAhead 5 (some .int) rm_X3_countAhead [.ref (ad Z o 0), .int a1] cm mm lm (some (.int r)) cm mm lm := by
  refine Ct_of (own := RX3) [some (.ref (ad Z o 0)), some (.int a1), none, none, none] ⟨by decide, rfl⟩ rfl (Nat.le_of_ble_eq_true rfl) rfl (fun X hX hF => ?_)
  have g : G (fun r : Int32 => Fx Z X (some .int) (some (.int r)) cm mm lm) (f_X3_countAhead cm o a1) (J Z X 5 cm mm lm 0 [some (.ref (ad Z o 0)), some (.int a1), none, none, none] []) := by
    unfold f_X3_countAhead
    refine g_aload_n hX dX3_countAhead_0 rfl rfl ?_
    refine g_iload_n hX dX3_countAhead_1 rfl rfl ?_
    refine g_callV hX (As := [.int a1]) (fun r => (some (.int r))) (fun _ => cm) (fun _ => mm) (fun _ => lm) (fun r hr => c_X3_rankKey hO hr) mi_X3_rankKey ml_3_29 (okO hO (by decide)) (e3_0 hO) rfl rfl rfl rfl rfl (Nat.le_of_ble_eq_true rfl) dX3_countAhead_2 ?_
    intro x2 hx2
    refine g_istore_n hX dX3_countAhead_5 rfl (Nat.le_of_ble_eq_true rfl) rfl ?_
    refine g_iconst hX dX3_countAhead_6 ic_0 ?_
    refine g_istore_n hX dX3_countAhead_7 rfl (Nat.le_of_ble_eq_true rfl) rfl ?_
    refine g_iconst hX dX3_countAhead_8 ic_0 ?_
    refine g_istore hX dX3_countAhead_9 (Nat.le_of_ble_eq_true rfl) rfl ?_
    refine g_loop (Hd := fun s : Int32 × Int32 => J Z X 5 cm mm lm 11 [some (.ref (ad Z o 0)), some (.int a1), some (.int x2), some (.int s.1), some (.int s.2)] []) (Ex := fun s : Int32 × Int32 => J Z X 5 cm mm lm 39 [some (.ref (ad Z o 0)), some (.int a1), some (.int x2), some (.int s.1), some (.int s.2)] []) ?_ ?_
    · rintro ⟨s11_3, s11_4⟩
      show G _ (f_X3_countAhead_B11 cm o x2 s11_3 s11_4) (J Z X 5 cm mm lm 11 [some (.ref (ad Z o 0)), some (.int a1), some (.int x2), some (.int s11_3), some (.int s11_4)] [])
      unfold f_X3_countAhead_B11
      refine g_iload hX dX3_countAhead_11 rfl ?_
      refine g_aload_n hX dX3_countAhead_13 rfl rfl ?_
      refine g_callV hX (As := []) (fun r => (some (.int r))) (fun _ => cm) (fun _ => mm) (fun _ => lm) (fun r hr => c_X3_people hO hr) mi_X3_people ml_3_33 (okO hO (by decide)) (e3_0 hO) rfl rfl rfl rfl rfl (Nat.le_of_ble_eq_true rfl) dX3_countAhead_14 ?_
      intro x14 hx14
      refine g_icmp_ge hX dX3_countAhead_17 (fun h17 => ?_) (fun h17 => ?_)
      · exact g_wk (lv0 := [some (.ref (ad Z o 0)), some (.int a1), some (.int x2), some (.int s11_3), some (.int s11_4)]) ⟨rfl, rfl, rfl, rfl, rfl, trivial⟩ (g_end (fun h => h))
      · refine g_aload_n hX dX3_countAhead_20 rfl rfl ?_
        refine g_iload hX dX3_countAhead_21 rfl ?_
        refine g_callV hX (As := [.int s11_4]) (fun r => (some (.int r))) (fun _ => cm) (fun _ => mm) (fun _ => lm) (fun r hr => c_X3_rankKey hO hr) mi_X3_rankKey ml_3_29 (okO hO (by decide)) (e3_0 hO) rfl rfl rfl rfl rfl (Nat.le_of_ble_eq_true rfl) dX3_countAhead_23 ?_
        intro x23 hx23
        refine g_iload_n hX dX3_countAhead_26 rfl rfl ?_
        refine g_icmp_ge hX dX3_countAhead_27 (fun h27 => ?_) (fun h27 => ?_)
        · refine g_iinc hX dX3_countAhead_33 ic_1 rfl (Nat.le_of_ble_eq_true rfl) rfl ?_
          refine g_goto hX dX3_countAhead_36 ?_
          exact g_wk (lv0 := [some (.ref (ad Z o 0)), some (.int a1), some (.int x2), some (.int s11_3), some (.int (s11_4 + 1))]) ⟨rfl, rfl, rfl, rfl, rfl, trivial⟩ (g_end (fun h => h))
        · refine g_iinc hX dX3_countAhead_30 ic_1 rfl (Nat.le_of_ble_eq_true rfl) rfl ?_
          refine g_iinc hX dX3_countAhead_33 ic_1 rfl (Nat.le_of_ble_eq_true rfl) rfl ?_
          refine g_goto hX dX3_countAhead_36 ?_
          exact g_wk (lv0 := [some (.ref (ad Z o 0)), some (.int a1), some (.int x2), some (.int (s11_3 + 1)), some (.int (s11_4 + 1))]) ⟨rfl, rfl, rfl, rfl, rfl, trivial⟩ (g_end (fun h => h))
    · rintro ⟨s11_3, s11_4⟩
      show G _ _ (J Z X 5 cm mm lm 39 [some (.ref (ad Z o 0)), some (.int a1), some (.int x2), some (.int s11_3), some (.int s11_4)] [])
      refine g_iload_n hX dX3_countAhead_39 rfl rfl ?_
      exact g_iret hX (fun h => h) dX3_countAhead_40
  exact g r h hF

def f_X3_countWith_B5 (cm : CM) (o : Nat) (a1 : Int32) (a2 : Int32) (s5_3 : Int32) (s5_4 : Int32) : Option ((Int32 × Int32) ⊕ (Int32 × Int32)) :=
  (f_X3_people cm o).bind fun x8 =>
  if x8 ≤ s5_4 then
    some (.inl (s5_3, s5_4))
  else
    (f_X3_get cm o a1 s5_4).bind fun x18 =>
    if x18 = a2 then
      some (.inr (s5_3 + 1, s5_4 + 1))
    else
      some (.inr (s5_3, s5_4 + 1))

def f_X3_countWith (cm : CM) (o : Nat) (a1 a2 : Int32) : Option (Int32) :=
  (itr (fun s : Int32 × Int32 => f_X3_countWith_B5 cm o a1 a2 s.1 s.2) 2000 (0, 0)).bind fun (s5_3, s5_4) =>
  some s5_3

abbrev rm_X3_countWith : Room := { frames := 2, cells := 0, slots := 0, locals := 43 }
set_option maxHeartbeats 2000000 in
set_option maxRecDepth 20000 in
theorem c_X3_countWith {Z : ZC} {cm : CM} {mm : MM} {lm : LM} {o : Nat} {a1 a2 : Int32} {r : Int32} (hO : isOf o) (h : f_X3_countWith cm o a1 a2 = some r) : Ct Z yX3_countWith cX3_countWith 5 (some .int) rm_X3_countWith [.ref (ad Z o 0), .int a1, .int a2] cm mm lm (some (.int r)) cm mm lm := by
  refine Ct_of (own := RX3) [some (.ref (ad Z o 0)), some (.int a1), some (.int a2), none, none] ⟨by decide, rfl⟩ rfl (Nat.le_of_ble_eq_true rfl) rfl (fun X hX hF => ?_)
  have g : G (fun r : Int32 => Fx Z X (some .int) (some (.int r)) cm mm lm) (f_X3_countWith cm o a1 a2) (J Z X 5 cm mm lm 0 [some (.ref (ad Z o 0)), some (.int a1), some (.int a2), none, none] []) := by
    unfold f_X3_countWith
    refine g_iconst hX dX3_countWith_0 ic_0 ?_
    refine g_istore_n hX dX3_countWith_1 rfl (Nat.le_of_ble_eq_true rfl) rfl ?_
    refine g_iconst hX dX3_countWith_2 ic_0 ?_
    refine g_istore hX dX3_countWith_3 (Nat.le_of_ble_eq_true rfl) rfl ?_
    refine g_loop (Hd := fun s : Int32 × Int32 => J Z X 5 cm mm lm 5 [some (.ref (ad Z o 0)), some (.int a1), some (.int a2), some (.int s.1), some (.int s.2)] []) (Ex := fun s : Int32 × Int32 => J Z X 5 cm mm lm 34 [some (.ref (ad Z o 0)), some (.int a1), some (.int a2), some (.int s.1), some (.int s.2)] []) ?_ ?_
    · rintro ⟨s5_3, s5_4⟩
      show G _ (f_X3_countWith_B5 cm o a1 a2 s5_3 s5_4) (J Z X 5 cm mm lm 5 [some (.ref (ad Z o 0)), some (.int a1), some (.int a2), some (.int s5_3), some (.int s5_4)] [])
      unfold f_X3_countWith_B5
      refine g_iload hX dX3_countWith_5 rfl ?_
      refine g_aload_n hX dX3_countWith_7 rfl rfl ?_
      refine g_callV hX (As := []) (fun r => (some (.int r))) (fun _ => cm) (fun _ => mm) (fun _ => lm) (fun r hr => c_X3_people hO hr) mi_X3_people ml_3_33 (okO hO (by decide)) (e3_0 hO) rfl rfl rfl rfl rfl (Nat.le_of_ble_eq_true rfl) dX3_countWith_8 ?_
      intro x8 hx8
      refine g_icmp_ge hX dX3_countWith_11 (fun h11 => ?_) (fun h11 => ?_)
      · exact g_wk (lv0 := [some (.ref (ad Z o 0)), some (.int a1), some (.int a2), some (.int s5_3), some (.int s5_4)]) ⟨rfl, rfl, rfl, rfl, rfl, trivial⟩ (g_end (fun h => h))
      · refine g_aload_n hX dX3_countWith_14 rfl rfl ?_
        refine g_iload_n hX dX3_countWith_15 rfl rfl ?_
        refine g_iload hX dX3_countWith_16 rfl ?_
        refine g_callV hX (As := [.int a1, .int s5_4]) (fun r => (some (.int r))) (fun _ => cm) (fun _ => mm) (fun _ => lm) (fun r hr => c_X3_get hO hr) mi_X3_get ml_3_25 (okO hO (by decide)) (e3_0 hO) rfl rfl rfl rfl rfl (Nat.le_of_ble_eq_true rfl) dX3_countWith_18 ?_
        intro x18 hx18
        refine g_iload_n hX dX3_countWith_21 rfl rfl ?_
        refine g_icmp_ne hX dX3_countWith_22 (fun h22 => ?_) (fun h22 => ?_)
        · refine g_iinc hX dX3_countWith_25 ic_1 rfl (Nat.le_of_ble_eq_true rfl) rfl ?_
          refine g_iinc hX dX3_countWith_28 ic_1 rfl (Nat.le_of_ble_eq_true rfl) rfl ?_
          refine g_goto hX dX3_countWith_31 ?_
          exact g_wk (lv0 := [some (.ref (ad Z o 0)), some (.int a1), some (.int a2), some (.int (s5_3 + 1)), some (.int (s5_4 + 1))]) ⟨rfl, rfl, rfl, rfl, rfl, trivial⟩ (g_end (fun h => h))
        · refine g_iinc hX dX3_countWith_28 ic_1 rfl (Nat.le_of_ble_eq_true rfl) rfl ?_
          refine g_goto hX dX3_countWith_31 ?_
          exact g_wk (lv0 := [some (.ref (ad Z o 0)), some (.int a1), some (.int a2), some (.int s5_3), some (.int (s5_4 + 1))]) ⟨rfl, rfl, rfl, rfl, rfl, trivial⟩ (g_end (fun h => h))
    · rintro ⟨s5_3, s5_4⟩
      show G _ _ (J Z X 5 cm mm lm 34 [some (.ref (ad Z o 0)), some (.int a1), some (.int a2), some (.int s5_3), some (.int s5_4)] [])
      refine g_iload_n hX dX3_countWith_34 rfl rfl ?_
      exact g_iret hX (fun h => h) dX3_countWith_35
  exact g r h hF

def f_X3_countActive_B4 (cm : CM) (o : Nat) (s4_1 : Int32) (s4_2 : Int32) : Option ((Int32 × Int32) ⊕ (Int32 × Int32)) :=
  (f_X3_people cm o).bind fun x6 =>
  if x6 ≤ s4_2 then
    some (.inl (s4_1, s4_2))
  else
    (f_X3_isActive cm o s4_2).bind fun x14 =>
    if x14 = 0 then
      some (.inr (s4_1, s4_2 + 1))
    else
      some (.inr (s4_1 + 1, s4_2 + 1))

def f_X3_countActive (cm : CM) (o : Nat) : Option (Int32) :=
  (itr (fun s : Int32 × Int32 => f_X3_countActive_B4 cm o s.1 s.2) 2000 (0, 0)).bind fun (s4_1, s4_2) =>
  some s4_1

abbrev rm_X3_countActive : Room := { frames := 2, cells := 0, slots := 0, locals := 44 }
set_option maxHeartbeats 2000000 in
set_option maxRecDepth 20000 in
theorem c_X3_countActive {Z : ZC} {cm : CM} {mm : MM} {lm : LM} {o : Nat} {r : Int32} (hO : isOf o) (h : f_X3_countActive cm o = some r) : Ct Z yX3_countActive cX3_countActive 3 (some .int) rm_X3_countActive [.ref (ad Z o 0)] cm mm lm (some (.int r)) cm mm lm := by
  refine Ct_of (own := RX3) [some (.ref (ad Z o 0)), none, none] ⟨by decide, rfl⟩ rfl (Nat.le_of_ble_eq_true rfl) rfl (fun X hX hF => ?_)
  have g : G (fun r : Int32 => Fx Z X (some .int) (some (.int r)) cm mm lm) (f_X3_countActive cm o) (J Z X 3 cm mm lm 0 [some (.ref (ad Z o 0)), none, none] []) := by
    unfold f_X3_countActive
    refine g_iconst hX dX3_countActive_0 ic_0 ?_
    refine g_istore_n hX dX3_countActive_1 rfl (Nat.le_of_ble_eq_true rfl) rfl ?_
    refine g_iconst hX dX3_countActive_2 ic_0 ?_
    refine g_istore_n hX dX3_countActive_3 rfl (Nat.le_of_ble_eq_true rfl) rfl ?_
    refine g_loop (Hd := fun s : Int32 × Int32 => J Z X 3 cm mm lm 4 [some (.ref (ad Z o 0)), some (.int s.1), some (.int s.2)] []) (Ex := fun s : Int32 × Int32 => J Z X 3 cm mm lm 29 [some (.ref (ad Z o 0)), some (.int s.1), some (.int s.2)] []) ?_ ?_
    · rintro ⟨s4_1, s4_2⟩
      show G _ (f_X3_countActive_B4 cm o s4_1 s4_2) (J Z X 3 cm mm lm 4 [some (.ref (ad Z o 0)), some (.int s4_1), some (.int s4_2)] [])
      unfold f_X3_countActive_B4
      refine g_iload_n hX dX3_countActive_4 rfl rfl ?_
      refine g_aload_n hX dX3_countActive_5 rfl rfl ?_
      refine g_callV hX (As := []) (fun r => (some (.int r))) (fun _ => cm) (fun _ => mm) (fun _ => lm) (fun r hr => c_X3_people hO hr) mi_X3_people ml_3_33 (okO hO (by decide)) (e3_0 hO) rfl rfl rfl rfl rfl (Nat.le_of_ble_eq_true rfl) dX3_countActive_6 ?_
      intro x6 hx6
      refine g_icmp_ge hX dX3_countActive_9 (fun h9 => ?_) (fun h9 => ?_)
      · exact g_wk (lv0 := [some (.ref (ad Z o 0)), some (.int s4_1), some (.int s4_2)]) ⟨rfl, rfl, rfl, trivial⟩ (g_end (fun h => h))
      · refine g_aload_n hX dX3_countActive_12 rfl rfl ?_
        refine g_iload_n hX dX3_countActive_13 rfl rfl ?_
        refine g_callV hX (As := [.int s4_2]) (fun r => (some (.int r))) (fun _ => cm) (fun _ => mm) (fun _ => lm) (fun r hr => c_X3_isActive hO hr) mi_X3_isActive ml_3_37 (okO hO (by decide)) (e3_0 hO) rfl rfl rfl rfl rfl (Nat.le_of_ble_eq_true rfl) dX3_countActive_14 ?_
        intro x14 hx14
        refine g_if_eq hX dX3_countActive_17 (fun h17 => ?_) (fun h17 => ?_)
        · refine g_iinc hX dX3_countActive_23 ic_1 rfl (Nat.le_of_ble_eq_true rfl) rfl ?_
          refine g_goto hX dX3_countActive_26 ?_
          exact g_wk (lv0 := [some (.ref (ad Z o 0)), some (.int s4_1), some (.int (s4_2 + 1))]) ⟨rfl, rfl, rfl, trivial⟩ (g_end (fun h => h))
        · refine g_iinc hX dX3_countActive_20 ic_1 rfl (Nat.le_of_ble_eq_true rfl) rfl ?_
          refine g_iinc hX dX3_countActive_23 ic_1 rfl (Nat.le_of_ble_eq_true rfl) rfl ?_
          refine g_goto hX dX3_countActive_26 ?_
          exact g_wk (lv0 := [some (.ref (ad Z o 0)), some (.int (s4_1 + 1)), some (.int (s4_2 + 1))]) ⟨rfl, rfl, rfl, trivial⟩ (g_end (fun h => h))
    · rintro ⟨s4_1, s4_2⟩
      show G _ _ (J Z X 3 cm mm lm 29 [some (.ref (ad Z o 0)), some (.int s4_1), some (.int s4_2)] [])
      refine g_iload_n hX dX3_countActive_29 rfl rfl ?_
      exact g_iret hX (fun h => h) dX3_countActive_30
  exact g r h hF
