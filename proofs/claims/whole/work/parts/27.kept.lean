def f_X6_beginAct (cm : CM) : Option (CM) :=
  (f_X2_keep cm 1).bind fun r8 =>
  some (u3 r8 0 0 (upd (r8 0 0) 7 1))

abbrev rm_X6_beginAct : Room := { frames := 3, cells := 0, slots := 0, locals := 83 }
set_option maxHeartbeats 2000000 in
set_option maxRecDepth 20000 in
theorem c_X6_beginAct {Z : ZC} {cm : CM} {mm : MM} {lm : LM} {r : CM}  (h : f_X6_beginAct cm = some r) : Ct Z yX6_beginAct cX6_beginAct 1 none rm_X6_beginAct [.ref (ad Z 0 0)] cm mm lm none r mm lm := by
  refine Ct_of (own := RX6) [some (.ref (ad Z 0 0))] ⟨by decide, rfl⟩ rfl (Nat.le_of_ble_eq_true rfl) rfl (fun X hX hF => ?_)
  have g : G (fun r : CM => Fx Z X none none r mm lm) (f_X6_beginAct cm) (J Z X 1 cm mm lm 0 [some (.ref (ad Z 0 0))] []) := by
    unfold f_X6_beginAct
    refine g_aload_n hX dX6_beginAct_0 rfl rfl ?_
    refine g_get hX fi_6_19 p6_0 e6_0 rfl dX6_beginAct_1 ?_
    refine g_aload_n hX dX6_beginAct_4 rfl rfl ?_
    refine g_get hX fi_6_12 p6_0 e6_0 rfl dX6_beginAct_5 ?_
    refine g_callV hX (As := [.ref (ad Z 1 0)]) (fun _ => none) (fun r => r) (fun _ => mm) (fun _ => lm) (fun r hr => c_X2_keep isOf1 hr) mi_X2_keep ml_6_229 p2_0 e2_0 rfl rfl rfl rfl rfl (Nat.le_of_ble_eq_true rfl) dX6_beginAct_8 ?_
    intro r8 hr8
    refine g_aload_n hX dX6_beginAct_11 rfl rfl ?_
    refine g_iconst hX dX6_beginAct_12 ic_1 ?_
    refine g_putC hX fi_6_52 p6_0 (by decide) (s6_0 Z) rfl (Nat.le_of_ble_eq_true rfl) tyX6_ok nmX6 rfl rfl (by decide) (by decide) dX6_beginAct_13 ?_
    exact g_vret hX (fun h => h) dX6_beginAct_16
  exact g r h hF

def f_X6_enter (cm : CM) (a1 a2 a3 a4 : Int32) : Option (Int32 × CM) :=
  (f_X6_isWithin a1 99).bind fun x3 =>
  if x3 = 0 then
    some ((-2), cm)
  else
    (f_X6_isWithin a2 999).bind fun x13 =>
    if x13 = 0 then
      some ((-2), cm)
    else
      (f_X6_isKind a3).bind fun x23 =>
      if x23 = 0 then
        some ((-2), cm)
      else
        (f_X6_isGroupSet a4).bind fun x31 =>
        if x31 = 0 then
          some ((-2), cm)
        else
          (f_X3_people cm 1).bind fun x44 =>
          if x44 < 16 then
            (f_X6_beginAct cm).bind fun r60 =>
            (f_X3_set r60 1 0 x44 a1).bind fun r71 =>
            (f_X3_set r71 1 16 x44 a2).bind fun r83 =>
            (f_X3_set r83 1 32 x44 a3).bind fun r95 =>
            (f_X3_set r95 1 48 x44 a4).bind fun r108 =>
            (f_X3_dismiss r108 1 x44 0).bind fun r118 =>
            (f_X3_set r118 1 158 0 (x44 + 1)).bind fun r133 =>
            some (x44, r133)
          else
            some ((-4), cm)

abbrev rm_X6_enter : Room := { frames := 4, cells := 0, slots := 0, locals := 103 }
set_option maxHeartbeats 2000000 in
set_option maxRecDepth 20000 in
theorem c_X6_enter {Z : ZC} {cm : CM} {mm : MM} {lm : LM} {a1 a2 a3 a4 : Int32} {r : Int32 × CM}  (h : f_X6_enter cm a1 a2 a3 a4 = some r) : Ct Z yX6_enter cX6_enter 6 (some .int) rm_X6_enter [.ref (ad Z 0 0), .int a1, .int a2, .int a3, .int a4] cm mm lm (some (.int r.1)) r.2 mm lm := by
  refine Ct_of (own := RX6) [some (.ref (ad Z 0 0)), some (.int a1), some (.int a2), some (.int a3), some (.int a4), none] ⟨by decide, rfl⟩ rfl (Nat.le_of_ble_eq_true rfl) rfl (fun X hX hF => ?_)
  have g : G (fun r : Int32 × CM => Fx Z X (some .int) (some (.int r.1)) r.2 mm lm) (f_X6_enter cm a1 a2 a3 a4) (J Z X 6 cm mm lm 0 [some (.ref (ad Z 0 0)), some (.int a1), some (.int a2), some (.int a3), some (.int a4), none] []) := by
    unfold f_X6_enter
    refine g_iload_n hX dX6_enter_0 rfl rfl ?_
    refine g_bipush hX dX6_enter_1 bp_99 ?_
    refine g_callS hX (As := [.int a1, .int 99]) (fun r => (some (.int r))) (fun _ => cm) (fun _ => mm) (fun _ => lm) (fun r hr => c_X6_isWithin  hr) mi_X6_isWithin ml_6_56 rfl rfl rfl (Nat.le_of_ble_eq_true rfl) dX6_enter_3 ?_
    intro x3 hx3
    refine g_if_eq hX dX6_enter_6 (fun h6 => ?_) (fun h6 => ?_)
    · refine g_bipush hX dX6_enter_19 bp_m2 ?_
      exact g_iret hX (fun h => h) dX6_enter_21
    · refine g_iload_n hX dX6_enter_9 rfl rfl ?_
      refine g_sipush hX dX6_enter_10 sp_999 ?_
      refine g_callS hX (As := [.int a2, .int 999]) (fun r => (some (.int r))) (fun _ => cm) (fun _ => mm) (fun _ => lm) (fun r hr => c_X6_isWithin  hr) mi_X6_isWithin ml_6_56 rfl rfl rfl (Nat.le_of_ble_eq_true rfl) dX6_enter_13 ?_
      intro x13 hx13
      refine g_if_ne hX dX6_enter_16 (fun h16 => ?_) (fun h16 => ?_)
      · refine g_bipush hX dX6_enter_19 bp_m2 ?_
        exact g_iret hX (fun h => h) dX6_enter_21
      · refine g_iload_n hX dX6_enter_22 rfl rfl ?_
        refine g_callS hX (As := [.int a3]) (fun r => (some (.int r))) (fun _ => cm) (fun _ => mm) (fun _ => lm) (fun r hr => c_X6_isKind  hr) mi_X6_isKind ml_6_60 rfl rfl rfl (Nat.le_of_ble_eq_true rfl) dX6_enter_23 ?_
        intro x23 hx23
        refine g_if_eq hX dX6_enter_26 (fun h26 => ?_) (fun h26 => ?_)
        · refine g_bipush hX dX6_enter_37 bp_m2 ?_
          exact g_iret hX (fun h => h) dX6_enter_39
        · refine g_iload hX dX6_enter_29 rfl ?_
          refine g_callS hX (As := [.int a4]) (fun r => (some (.int r))) (fun _ => cm) (fun _ => mm) (fun _ => lm) (fun r hr => c_X6_isGroupSet  hr) mi_X6_isGroupSet ml_6_64 rfl rfl rfl (Nat.le_of_ble_eq_true rfl) dX6_enter_31 ?_
          intro x31 hx31
          refine g_if_ne hX dX6_enter_34 (fun h34 => ?_) (fun h34 => ?_)
          · refine g_bipush hX dX6_enter_37 bp_m2 ?_
            exact g_iret hX (fun h => h) dX6_enter_39
          · refine g_aload_n hX dX6_enter_40 rfl rfl ?_
            refine g_get hX fi_6_12 p6_0 e6_0 rfl dX6_enter_41 ?_
            refine g_callV hX (As := []) (fun r => (some (.int r))) (fun _ => cm) (fun _ => mm) (fun _ => lm) (fun r hr => c_X3_people isOf1 hr) mi_X3_people ml_6_67 (okO isOf1 (by decide)) (e3_0 isOf1) rfl rfl rfl rfl rfl (Nat.le_of_ble_eq_true rfl) dX6_enter_44 ?_
            intro x44 hx44
            refine g_istore hX dX6_enter_47 (Nat.le_of_ble_eq_true rfl) rfl ?_
            refine g_iload hX dX6_enter_49 rfl ?_
            refine g_bipush hX dX6_enter_51 bp_16 ?_
            refine g_icmp_lt hX dX6_enter_53 (fun h53 => ?_) (fun h53 => ?_)
            · refine g_aload_n hX dX6_enter_59 rfl rfl ?_
              refine g_callV hX (As := []) (fun _ => none) (fun r => r) (fun _ => mm) (fun _ => lm) (fun r hr => c_X6_beginAct  hr) mi_X6_beginAct ml_6_71 p6_0 e6_0 rfl rfl rfl rfl rfl (Nat.le_of_ble_eq_true rfl) dX6_enter_60 ?_
              intro r60 hr60
              refine g_aload_n hX dX6_enter_63 rfl rfl ?_
              refine g_get hX fi_6_12 p6_0 e6_0 rfl dX6_enter_64 ?_
              refine g_iconst hX dX6_enter_67 ic_0 ?_
              refine g_iload hX dX6_enter_68 rfl ?_
              refine g_iload_n hX dX6_enter_70 rfl rfl ?_
              refine g_callV hX (As := [.int 0, .int x44, .int a1]) (fun _ => none) (fun r => r) (fun _ => mm) (fun _ => lm) (fun r hr => c_X3_set isOf1 hr) mi_X3_set ml_6_74 (okO isOf1 (by decide)) (e3_0 isOf1) rfl rfl rfl rfl rfl (Nat.le_of_ble_eq_true rfl) dX6_enter_71 ?_
              intro r71 hr71
              refine g_aload_n hX dX6_enter_74 rfl rfl ?_
              refine g_get hX fi_6_12 p6_0 e6_0 rfl dX6_enter_75 ?_
              refine g_bipush hX dX6_enter_78 bp_16 ?_
              refine g_iload hX dX6_enter_80 rfl ?_
              refine g_iload_n hX dX6_enter_82 rfl rfl ?_
              refine g_callV hX (As := [.int 16, .int x44, .int a2]) (fun _ => none) (fun r => r) (fun _ => mm) (fun _ => lm) (fun r hr => c_X3_set isOf1 hr) mi_X3_set ml_6_74 (okO isOf1 (by decide)) (e3_0 isOf1) rfl rfl rfl rfl rfl (Nat.le_of_ble_eq_true rfl) dX6_enter_83 ?_
              intro r83 hr83
              refine g_aload_n hX dX6_enter_86 rfl rfl ?_
              refine g_get hX fi_6_12 p6_0 e6_0 rfl dX6_enter_87 ?_
              refine g_bipush hX dX6_enter_90 bp_32 ?_
              refine g_iload hX dX6_enter_92 rfl ?_
              refine g_iload_n hX dX6_enter_94 rfl rfl ?_
              refine g_callV hX (As := [.int 32, .int x44, .int a3]) (fun _ => none) (fun r => r) (fun _ => mm) (fun _ => lm) (fun r hr => c_X3_set isOf1 hr) mi_X3_set ml_6_74 (okO isOf1 (by decide)) (e3_0 isOf1) rfl rfl rfl rfl rfl (Nat.le_of_ble_eq_true rfl) dX6_enter_95 ?_
              intro r95 hr95
              refine g_aload_n hX dX6_enter_98 rfl rfl ?_
              refine g_get hX fi_6_12 p6_0 e6_0 rfl dX6_enter_99 ?_
              refine g_bipush hX dX6_enter_102 bp_48 ?_
              refine g_iload hX dX6_enter_104 rfl ?_
              refine g_iload hX dX6_enter_106 rfl ?_
              refine g_callV hX (As := [.int 48, .int x44, .int a4]) (fun _ => none) (fun r => r) (fun _ => mm) (fun _ => lm) (fun r hr => c_X3_set isOf1 hr) mi_X3_set ml_6_74 (okO isOf1 (by decide)) (e3_0 isOf1) rfl rfl rfl rfl rfl (Nat.le_of_ble_eq_true rfl) dX6_enter_108 ?_
              intro r108 hr108
              refine g_aload_n hX dX6_enter_111 rfl rfl ?_
              refine g_get hX fi_6_12 p6_0 e6_0 rfl dX6_enter_112 ?_
              refine g_iload hX dX6_enter_115 rfl ?_
              refine g_iconst hX dX6_enter_117 ic_0 ?_
              refine g_callV hX (As := [.int x44, .int 0]) (fun _ => none) (fun r => r) (fun _ => mm) (fun _ => lm) (fun r hr => c_X3_dismiss isOf1 hr) mi_X3_dismiss ml_6_78 (okO isOf1 (by decide)) (e3_0 isOf1) rfl rfl rfl rfl rfl (Nat.le_of_ble_eq_true rfl) dX6_enter_118 ?_
              intro r118 hr118
              refine g_aload_n hX dX6_enter_121 rfl rfl ?_
              refine g_get hX fi_6_12 p6_0 e6_0 rfl dX6_enter_122 ?_
              refine g_sipush hX dX6_enter_125 sp_158 ?_
              refine g_iconst hX dX6_enter_128 ic_0 ?_
              refine g_iload hX dX6_enter_129 rfl ?_
              refine g_iconst hX dX6_enter_131 ic_1 ?_
              refine g_iadd hX dX6_enter_132 ?_
              refine g_callV hX (As := [.int 158, .int 0, .int (x44 + 1)]) (fun _ => none) (fun r => r) (fun _ => mm) (fun _ => lm) (fun r hr => c_X3_set isOf1 hr) mi_X3_set ml_6_74 (okO isOf1 (by decide)) (e3_0 isOf1) rfl rfl rfl rfl rfl (Nat.le_of_ble_eq_true rfl) dX6_enter_133 ?_
              intro r133 hr133
              refine g_iload hX dX6_enter_136 rfl ?_
              exact g_iret hX (fun h => h) dX6_enter_138
            · refine g_bipush hX dX6_enter_56 bp_m4 ?_
              exact g_iret hX (fun h => h) dX6_enter_58
  exact g r h hF

def f_X6_change (cm : CM) (a1 a2 a3 : Int32) : Option (Int32 × CM) :=
  (f_X6_beginAct cm).bind fun r1 =>
  (f_X3_get r1 1 a1 a2).bind fun x10 =>
  (f_X3_set r1 1 a1 a2 a3).bind fun r22 =>
  some (x10, r22)

abbrev rm_X6_change : Room := { frames := 4, cells := 0, slots := 0, locals := 103 }
set_option maxHeartbeats 2000000 in
set_option maxRecDepth 20000 in
theorem c_X6_change {Z : ZC} {cm : CM} {mm : MM} {lm : LM} {a1 a2 a3 : Int32} {r : Int32 × CM}  (h : f_X6_change cm a1 a2 a3 = some r) : Ct Z yX6_change cX6_change 5 (some .int) rm_X6_change [.ref (ad Z 0 0), .int a1, .int a2, .int a3] cm mm lm (some (.int r.1)) r.2 mm lm := by
  refine Ct_of (own := RX6) [some (.ref (ad Z 0 0)), some (.int a1), some (.int a2), some (.int a3), none] ⟨by decide, rfl⟩ rfl (Nat.le_of_ble_eq_true rfl) rfl (fun X hX hF => ?_)
  have g : G (fun r : Int32 × CM => Fx Z X (some .int) (some (.int r.1)) r.2 mm lm) (f_X6_change cm a1 a2 a3) (J Z X 5 cm mm lm 0 [some (.ref (ad Z 0 0)), some (.int a1), some (.int a2), some (.int a3), none] []) := by
    unfold f_X6_change
    refine g_aload_n hX dX6_change_0 rfl rfl ?_
    refine g_callV hX (As := []) (fun _ => none) (fun r => r) (fun _ => mm) (fun _ => lm) (fun r hr => c_X6_beginAct  hr) mi_X6_beginAct ml_6_71 p6_0 e6_0 rfl rfl rfl rfl rfl (Nat.le_of_ble_eq_true rfl) dX6_change_1 ?_
    intro r1 hr1
    refine g_aload_n hX dX6_change_4 rfl rfl ?_
    refine g_get hX fi_6_12 p6_0 e6_0 rfl dX6_change_5 ?_
    refine g_iload_n hX dX6_change_8 rfl rfl ?_
    refine g_iload_n hX dX6_change_9 rfl rfl ?_
    refine g_callV hX (As := [.int a1, .int a2]) (fun r => (some (.int r))) (fun _ => r1) (fun _ => mm) (fun _ => lm) (fun r hr => c_X3_get isOf1 hr) mi_X3_get ml_6_89 (okO isOf1 (by decide)) (e3_0 isOf1) rfl rfl rfl rfl rfl (Nat.le_of_ble_eq_true rfl) dX6_change_10 ?_
    intro x10 hx10
    refine g_istore hX dX6_change_13 (Nat.le_of_ble_eq_true rfl) rfl ?_
    refine g_aload_n hX dX6_change_15 rfl rfl ?_
    refine g_get hX fi_6_12 p6_0 e6_0 rfl dX6_change_16 ?_
    refine g_iload_n hX dX6_change_19 rfl rfl ?_
    refine g_iload_n hX dX6_change_20 rfl rfl ?_
    refine g_iload_n hX dX6_change_21 rfl rfl ?_
    refine g_callV hX (As := [.int a1, .int a2, .int a3]) (fun _ => none) (fun r => r) (fun _ => mm) (fun _ => lm) (fun r hr => c_X3_set isOf1 hr) mi_X3_set ml_6_74 (okO isOf1 (by decide)) (e3_0 isOf1) rfl rfl rfl rfl rfl (Nat.le_of_ble_eq_true rfl) dX6_change_22 ?_
    intro r22 hr22
    refine g_iload hX dX6_change_25 rfl ?_
    exact g_iret hX (fun h => h) dX6_change_27
  exact g r h hF

def f_X6_isPerson (cm : CM) (a1 : Int32) : Option (Int32) :=
  (f_X3_people cm 1).bind fun x5 =>
  (f_X6_isWithin a1 (x5 - 1)).bind fun x10 =>
  some x10

abbrev rm_X6_isPerson : Room := { frames := 2, cells := 0, slots := 0, locals := 43 }
set_option maxHeartbeats 2000000 in
set_option maxRecDepth 20000 in
theorem c_X6_isPerson {Z : ZC} {cm : CM} {mm : MM} {lm : LM} {a1 : Int32} {r : Int32}  (h : f_X6_isPerson cm a1 = some r) : Ct Z yX6_isPerson cX6_isPerson 2 (some .boolean) rm_X6_isPerson [.ref (ad Z 0 0), .int a1] cm mm lm (some (.int r)) cm mm lm := by
  refine Ct_of (own := RX6) [some (.ref (ad Z 0 0)), some (.int a1)] ⟨by decide, rfl⟩ rfl (Nat.le_of_ble_eq_true rfl) rfl (fun X hX hF => ?_)
  have g : G (fun r : Int32 => Fx Z X (some .boolean) (some (.int r)) cm mm lm) (f_X6_isPerson cm a1) (J Z X 2 cm mm lm 0 [some (.ref (ad Z 0 0)), some (.int a1)] []) := by
    unfold f_X6_isPerson
    refine g_iload_n hX dX6_isPerson_0 rfl rfl ?_
    refine g_aload_n hX dX6_isPerson_1 rfl rfl ?_
    refine g_get hX fi_6_12 p6_0 e6_0 rfl dX6_isPerson_2 ?_
    refine g_callV hX (As := []) (fun r => (some (.int r))) (fun _ => cm) (fun _ => mm) (fun _ => lm) (fun r hr => c_X3_people isOf1 hr) mi_X3_people ml_6_67 (okO isOf1 (by decide)) (e3_0 isOf1) rfl rfl rfl rfl rfl (Nat.le_of_ble_eq_true rfl) dX6_isPerson_5 ?_
    intro x5 hx5
    refine g_iconst hX dX6_isPerson_8 ic_1 ?_
    refine g_isub hX dX6_isPerson_9 ?_
    refine g_callS hX (As := [.int a1, .int (x5 - 1)]) (fun r => (some (.int r))) (fun _ => cm) (fun _ => mm) (fun _ => lm) (fun r hr => c_X6_isWithin  hr) mi_X6_isWithin ml_6_56 rfl rfl rfl (Nat.le_of_ble_eq_true rfl) dX6_isPerson_10 ?_
    intro x10 hx10
    exact g_zret hX (zb_X6_isWithin hx10) (fun h => h) dX6_isPerson_13
  exact g r h hF

def f_X6_changePerson (cm : CM) (a1 a2 a3 a4 : Int32) : Option (Int32 × CM) :=
  (f_X6_isPerson cm a2).bind fun x2 =>
  if x2 = 0 then
    some ((-1), cm)
  else
    (f_X6_isWithin a3 a4).bind fun x13 =>
    if x13 = 0 then
      some ((-2), cm)
    else
      (f_X6_change cm a1 a2 a3).bind fun r23 =>
      some (r23.1, r23.2)

abbrev rm_X6_changePerson : Room := { frames := 5, cells := 0, slots := 0, locals := 127 }
set_option maxHeartbeats 2000000 in
set_option maxRecDepth 20000 in
theorem c_X6_changePerson {Z : ZC} {cm : CM} {mm : MM} {lm : LM} {a1 a2 a3 a4 : Int32} {r : Int32 × CM}  (h : f_X6_changePerson cm a1 a2 a3 a4 = some r) : Ct Z yX6_changePerson cX6_changePerson 5 (some .int) rm_X6_changePerson [.ref (ad Z 0 0), .int a1, .int a2, .int a3, .int a4] cm mm lm (some (.int r.1)) r.2 mm lm := by
  refine Ct_of (own := RX6) [some (.ref (ad Z 0 0)), some (.int a1), some (.int a2), some (.int a3), some (.int a4)] ⟨by decide, rfl⟩ rfl (Nat.le_of_ble_eq_true rfl) rfl (fun X hX hF => ?_)
  have g : G (fun r : Int32 × CM => Fx Z X (some .int) (some (.int r.1)) r.2 mm lm) (f_X6_changePerson cm a1 a2 a3 a4) (J Z X 5 cm mm lm 0 [some (.ref (ad Z 0 0)), some (.int a1), some (.int a2), some (.int a3), some (.int a4)] []) := by
    unfold f_X6_changePerson
    refine g_aload_n hX dX6_changePerson_0 rfl rfl ?_
    refine g_iload_n hX dX6_changePerson_1 rfl rfl ?_
    refine g_callV hX (As := [.int a2]) (fun r => (some (.int r))) (fun _ => cm) (fun _ => mm) (fun _ => lm) (fun r hr => c_X6_isPerson  hr) mi_X6_isPerson ml_6_86 p6_0 e6_0 rfl rfl rfl rfl rfl (Nat.le_of_ble_eq_true rfl) dX6_changePerson_2 ?_
    intro x2 hx2
    refine g_if_ne hX dX6_changePerson_5 (fun h5 => ?_) (fun h5 => ?_)
    · refine g_iconst hX dX6_changePerson_8 ic_m1 ?_
      exact g_iret hX (fun h => h) dX6_changePerson_9
    · refine g_iload_n hX dX6_changePerson_10 rfl rfl ?_
      refine g_iload hX dX6_changePerson_11 rfl ?_
      refine g_callS hX (As := [.int a3, .int a4]) (fun r => (some (.int r))) (fun _ => cm) (fun _ => mm) (fun _ => lm) (fun r hr => c_X6_isWithin  hr) mi_X6_isWithin ml_6_56 rfl rfl rfl (Nat.le_of_ble_eq_true rfl) dX6_changePerson_13 ?_
      intro x13 hx13
      refine g_if_eq hX dX6_changePerson_16 (fun h16 => ?_) (fun h16 => ?_)
      · refine g_bipush hX dX6_changePerson_29 bp_m2 ?_
        exact g_iret hX (fun h => h) dX6_changePerson_31
      · refine g_aload_n hX dX6_changePerson_19 rfl rfl ?_
        refine g_iload_n hX dX6_changePerson_20 rfl rfl ?_
        refine g_iload_n hX dX6_changePerson_21 rfl rfl ?_
        refine g_iload_n hX dX6_changePerson_22 rfl rfl ?_
        refine g_callV hX (As := [.int a1, .int a2, .int a3]) (fun r => (some (.int r.1))) (fun r => r.2) (fun _ => mm) (fun _ => lm) (fun r hr => c_X6_change  hr) mi_X6_change ml_6_107 p6_0 e6_0 rfl rfl rfl rfl rfl (Nat.le_of_ble_eq_true rfl) dX6_changePerson_23 ?_
        intro r23 hr23
        refine g_goto hX dX6_changePerson_26 ?_
        exact g_iret hX (fun h => h) dX6_changePerson_31
  exact g r h hF

def f_X6_mark (cm : CM) (a1 a2 : Int32) : Option (Int32 × CM) :=
  (f_X6_changePerson cm 0 a1 a2 99).bind fun r6 =>
  some (r6.1, r6.2)

abbrev rm_X6_mark : Room := { frames := 6, cells := 0, slots := 0, locals := 151 }
set_option maxHeartbeats 2000000 in
set_option maxRecDepth 20000 in
theorem c_X6_mark {Z : ZC} {cm : CM} {mm : MM} {lm : LM} {a1 a2 : Int32} {r : Int32 × CM}  (h : f_X6_mark cm a1 a2 = some r) : Ct Z yX6_mark cX6_mark 3 (some .int) rm_X6_mark [.ref (ad Z 0 0), .int a1, .int a2] cm mm lm (some (.int r.1)) r.2 mm lm := by
  refine Ct_of (own := RX6) [some (.ref (ad Z 0 0)), some (.int a1), some (.int a2)] ⟨by decide, rfl⟩ rfl (Nat.le_of_ble_eq_true rfl) rfl (fun X hX hF => ?_)
  have g : G (fun r : Int32 × CM => Fx Z X (some .int) (some (.int r.1)) r.2 mm lm) (f_X6_mark cm a1 a2) (J Z X 3 cm mm lm 0 [some (.ref (ad Z 0 0)), some (.int a1), some (.int a2)] []) := by
    unfold f_X6_mark
    refine g_aload_n hX dX6_mark_0 rfl rfl ?_
    refine g_iconst hX dX6_mark_1 ic_0 ?_
    refine g_iload_n hX dX6_mark_2 rfl rfl ?_
    refine g_iload_n hX dX6_mark_3 rfl rfl ?_
    refine g_bipush hX dX6_mark_4 bp_99 ?_
    refine g_callV hX (As := [.int 0, .int a1, .int a2, .int 99]) (fun r => (some (.int r.1))) (fun r => r.2) (fun _ => mm) (fun _ => lm) (fun r hr => c_X6_changePerson  hr) mi_X6_changePerson ml_6_82 p6_0 e6_0 rfl rfl rfl rfl rfl (Nat.le_of_ble_eq_true rfl) dX6_mark_6 ?_
    intro r6 hr6
    exact g_iret hX (fun h => h) dX6_mark_9
  exact g r h hF

def f_X6_ticket (cm : CM) (a1 a2 : Int32) : Option (Int32 × CM) :=
  (f_X6_changePerson cm 16 a1 a2 999).bind fun r8 =>
  some (r8.1, r8.2)

abbrev rm_X6_ticket : Room := { frames := 6, cells := 0, slots := 0, locals := 151 }
set_option maxHeartbeats 2000000 in
set_option maxRecDepth 20000 in
theorem c_X6_ticket {Z : ZC} {cm : CM} {mm : MM} {lm : LM} {a1 a2 : Int32} {r : Int32 × CM}  (h : f_X6_ticket cm a1 a2 = some r) : Ct Z yX6_ticket cX6_ticket 3 (some .int) rm_X6_ticket [.ref (ad Z 0 0), .int a1, .int a2] cm mm lm (some (.int r.1)) r.2 mm lm := by
  refine Ct_of (own := RX6) [some (.ref (ad Z 0 0)), some (.int a1), some (.int a2)] ⟨by decide, rfl⟩ rfl (Nat.le_of_ble_eq_true rfl) rfl (fun X hX hF => ?_)
  have g : G (fun r : Int32 × CM => Fx Z X (some .int) (some (.int r.1)) r.2 mm lm) (f_X6_ticket cm a1 a2) (J Z X 3 cm mm lm 0 [some (.ref (ad Z 0 0)), some (.int a1), some (.int a2)] []) := by
    unfold f_X6_ticket
    refine g_aload_n hX dX6_ticket_0 rfl rfl ?_
    refine g_bipush hX dX6_ticket_1 bp_16 ?_
    refine g_iload_n hX dX6_ticket_3 rfl rfl ?_
    refine g_iload_n hX dX6_ticket_4 rfl rfl ?_
    refine g_sipush hX dX6_ticket_5 sp_999 ?_
    refine g_callV hX (As := [.int 16, .int a1, .int a2, .int 999]) (fun r => (some (.int r.1))) (fun r => r.2) (fun _ => mm) (fun _ => lm) (fun r hr => c_X6_changePerson  hr) mi_X6_changePerson ml_6_82 p6_0 e6_0 rfl rfl rfl rfl rfl (Nat.le_of_ble_eq_true rfl) dX6_ticket_8 ?_
    intro r8 hr8
    exact g_iret hX (fun h => h) dX6_ticket_11
  exact g r h hF

def f_X6_kind (cm : CM) (a1 a2 : Int32) : Option (Int32 × CM) :=
  (f_X6_changePerson cm 32 a1 a2 3).bind fun r6 =>
  some (r6.1, r6.2)

abbrev rm_X6_kind : Room := { frames := 6, cells := 0, slots := 0, locals := 151 }
set_option maxHeartbeats 2000000 in
set_option maxRecDepth 20000 in
theorem c_X6_kind {Z : ZC} {cm : CM} {mm : MM} {lm : LM} {a1 a2 : Int32} {r : Int32 × CM}  (h : f_X6_kind cm a1 a2 = some r) : Ct Z yX6_kind cX6_kind 3 (some .int) rm_X6_kind [.ref (ad Z 0 0), .int a1, .int a2] cm mm lm (some (.int r.1)) r.2 mm lm := by
  refine Ct_of (own := RX6) [some (.ref (ad Z 0 0)), some (.int a1), some (.int a2)] ⟨by decide, rfl⟩ rfl (Nat.le_of_ble_eq_true rfl) rfl (fun X hX hF => ?_)
  have g : G (fun r : Int32 × CM => Fx Z X (some .int) (some (.int r.1)) r.2 mm lm) (f_X6_kind cm a1 a2) (J Z X 3 cm mm lm 0 [some (.ref (ad Z 0 0)), some (.int a1), some (.int a2)] []) := by
    unfold f_X6_kind
    refine g_aload_n hX dX6_kind_0 rfl rfl ?_
    refine g_bipush hX dX6_kind_1 bp_32 ?_
    refine g_iload_n hX dX6_kind_3 rfl rfl ?_
    refine g_iload_n hX dX6_kind_4 rfl rfl ?_
    refine g_iconst hX dX6_kind_5 ic_3 ?_
    refine g_callV hX (As := [.int 32, .int a1, .int a2, .int 3]) (fun r => (some (.int r.1))) (fun r => r.2) (fun _ => mm) (fun _ => lm) (fun r hr => c_X6_changePerson  hr) mi_X6_changePerson ml_6_82 p6_0 e6_0 rfl rfl rfl rfl rfl (Nat.le_of_ble_eq_true rfl) dX6_kind_6 ?_
    intro r6 hr6
    exact g_iret hX (fun h => h) dX6_kind_9
  exact g r h hF

def f_X6_groups (cm : CM) (a1 a2 : Int32) : Option (Int32 × CM) :=
  (f_X6_changePerson cm 48 a1 a2 15).bind fun r7 =>
  some (r7.1, r7.2)

abbrev rm_X6_groups : Room := { frames := 6, cells := 0, slots := 0, locals := 151 }
set_option maxHeartbeats 2000000 in
set_option maxRecDepth 20000 in
theorem c_X6_groups {Z : ZC} {cm : CM} {mm : MM} {lm : LM} {a1 a2 : Int32} {r : Int32 × CM}  (h : f_X6_groups cm a1 a2 = some r) : Ct Z yX6_groups cX6_groups 3 (some .int) rm_X6_groups [.ref (ad Z 0 0), .int a1, .int a2] cm mm lm (some (.int r.1)) r.2 mm lm := by
  refine Ct_of (own := RX6) [some (.ref (ad Z 0 0)), some (.int a1), some (.int a2)] ⟨by decide, rfl⟩ rfl (Nat.le_of_ble_eq_true rfl) rfl (fun X hX hF => ?_)
  have g : G (fun r : Int32 × CM => Fx Z X (some .int) (some (.int r.1)) r.2 mm lm) (f_X6_groups cm a1 a2) (J Z X 3 cm mm lm 0 [some (.ref (ad Z 0 0)), some (.int a1), some (.int a2)] []) := by
    unfold f_X6_groups
    refine g_aload_n hX dX6_groups_0 rfl rfl ?_
    refine g_bipush hX dX6_groups_1 bp_48 ?_
    refine g_iload_n hX dX6_groups_3 rfl rfl ?_
    refine g_iload_n hX dX6_groups_4 rfl rfl ?_
    refine g_bipush hX dX6_groups_5 bp_15 ?_
    refine g_callV hX (As := [.int 48, .int a1, .int a2, .int 15]) (fun r => (some (.int r.1))) (fun r => r.2) (fun _ => mm) (fun _ => lm) (fun r hr => c_X6_changePerson  hr) mi_X6_changePerson ml_6_82 p6_0 e6_0 rfl rfl rfl rfl rfl (Nat.le_of_ble_eq_true rfl) dX6_groups_7 ?_
    intro r7 hr7
    exact g_iret hX (fun h => h) dX6_groups_10
  exact g r h hF

def f_X6_ofPerson (cm : CM) (a1 a2 : Int32) : Option (Int32) :=
  (f_X6_isPerson cm a1).bind fun x2 =>
  if x2 = 0 then
    some (-1)
  else
    if a2 = 0 then
      (f_X3_get cm 1 0 a1).bind fun x54 =>
      some x54
    else
    if a2 = 1 then
      (f_X3_get cm 1 16 a1).bind fun x65 =>
      some x65
    else
    if a2 = 2 then
      (f_X3_get cm 1 32 a1).bind fun x76 =>
      some x76
    else
    if a2 = 3 then
      (f_X3_get cm 1 48 a1).bind fun x87 =>
      some x87
    else
    if a2 = 4 then
      (f_X3_get cm 1 64 a1).bind fun x98 =>
      some x98
    else
    if a2 = 5 then
      (f_X3_countAhead cm 1 a1).bind fun x107 =>
      some x107
    else
    some (-2)

abbrev rm_X6_ofPerson : Room := { frames := 3, cells := 0, slots := 0, locals := 69 }
set_option maxHeartbeats 2000000 in
set_option maxRecDepth 20000 in
theorem c_X6_ofPerson {Z : ZC} {cm : CM} {mm : MM} {lm : LM} {a1 a2 : Int32} {r : Int32}  (h : f_X6_ofPerson cm a1 a2 = some r) : Ct Z yX6_ofPerson cX6_ofPerson 3 (some .int) rm_X6_ofPerson [.ref (ad Z 0 0), .int a1, .int a2] cm mm lm (some (.int r)) cm mm lm := by
  refine Ct_of (own := RX6) [some (.ref (ad Z 0 0)), some (.int a1), some (.int a2)] ⟨by decide, rfl⟩ rfl (Nat.le_of_ble_eq_true rfl) rfl (fun X hX hF => ?_)
  have g : G (fun r : Int32 => Fx Z X (some .int) (some (.int r)) cm mm lm) (f_X6_ofPerson cm a1 a2) (J Z X 3 cm mm lm 0 [some (.ref (ad Z 0 0)), some (.int a1), some (.int a2)] []) := by
    unfold f_X6_ofPerson
    refine g_aload_n hX dX6_ofPerson_0 rfl rfl ?_
    refine g_iload_n hX dX6_ofPerson_1 rfl rfl ?_
    refine g_callV hX (As := [.int a1]) (fun r => (some (.int r))) (fun _ => cm) (fun _ => mm) (fun _ => lm) (fun r hr => c_X6_isPerson  hr) mi_X6_isPerson ml_6_86 p6_0 e6_0 rfl rfl rfl rfl rfl (Nat.le_of_ble_eq_true rfl) dX6_ofPerson_2 ?_
    intro x2 hx2
    refine g_if_ne hX dX6_ofPerson_5 (fun h5 => ?_) (fun h5 => ?_)
    · refine g_iconst hX dX6_ofPerson_8 ic_m1 ?_
      exact g_iret hX (fun h => h) dX6_ofPerson_9
    · refine g_iload_n hX dX6_ofPerson_10 rfl rfl ?_
      refine g_tsw hX dX6_ofPerson_11 0 (by decide) (by decide) rfl rfl (fun h11_0 => ?_) (fun h11_0 => ?_)
      · refine g_aload_n hX dX6_ofPerson_48 rfl rfl ?_
        refine g_get hX fi_6_12 p6_0 e6_0 rfl dX6_ofPerson_49 ?_
        refine g_iconst hX dX6_ofPerson_52 ic_0 ?_
        refine g_iload_n hX dX6_ofPerson_53 rfl rfl ?_
        refine g_callV hX (As := [.int 0, .int a1]) (fun r => (some (.int r))) (fun _ => cm) (fun _ => mm) (fun _ => lm) (fun r hr => c_X3_get isOf1 hr) mi_X3_get ml_6_89 (okO isOf1 (by decide)) (e3_0 isOf1) rfl rfl rfl rfl rfl (Nat.le_of_ble_eq_true rfl) dX6_ofPerson_54 ?_
        intro x54 hx54
        exact g_iret hX (fun h => h) dX6_ofPerson_57
      refine g_tsw hX dX6_ofPerson_11 1 (by decide) (by decide) rfl rfl (fun h11_1 => ?_) (fun h11_1 => ?_)
      · refine g_aload_n hX dX6_ofPerson_58 rfl rfl ?_
        refine g_get hX fi_6_12 p6_0 e6_0 rfl dX6_ofPerson_59 ?_
        refine g_bipush hX dX6_ofPerson_62 bp_16 ?_
        refine g_iload_n hX dX6_ofPerson_64 rfl rfl ?_
        refine g_callV hX (As := [.int 16, .int a1]) (fun r => (some (.int r))) (fun _ => cm) (fun _ => mm) (fun _ => lm) (fun r hr => c_X3_get isOf1 hr) mi_X3_get ml_6_89 (okO isOf1 (by decide)) (e3_0 isOf1) rfl rfl rfl rfl rfl (Nat.le_of_ble_eq_true rfl) dX6_ofPerson_65 ?_
        intro x65 hx65
        exact g_iret hX (fun h => h) dX6_ofPerson_68
      refine g_tsw hX dX6_ofPerson_11 2 (by decide) (by decide) rfl rfl (fun h11_2 => ?_) (fun h11_2 => ?_)
      · refine g_aload_n hX dX6_ofPerson_69 rfl rfl ?_
        refine g_get hX fi_6_12 p6_0 e6_0 rfl dX6_ofPerson_70 ?_
        refine g_bipush hX dX6_ofPerson_73 bp_32 ?_
        refine g_iload_n hX dX6_ofPerson_75 rfl rfl ?_
        refine g_callV hX (As := [.int 32, .int a1]) (fun r => (some (.int r))) (fun _ => cm) (fun _ => mm) (fun _ => lm) (fun r hr => c_X3_get isOf1 hr) mi_X3_get ml_6_89 (okO isOf1 (by decide)) (e3_0 isOf1) rfl rfl rfl rfl rfl (Nat.le_of_ble_eq_true rfl) dX6_ofPerson_76 ?_
        intro x76 hx76
        exact g_iret hX (fun h => h) dX6_ofPerson_79
      refine g_tsw hX dX6_ofPerson_11 3 (by decide) (by decide) rfl rfl (fun h11_3 => ?_) (fun h11_3 => ?_)
      · refine g_aload_n hX dX6_ofPerson_80 rfl rfl ?_
        refine g_get hX fi_6_12 p6_0 e6_0 rfl dX6_ofPerson_81 ?_
        refine g_bipush hX dX6_ofPerson_84 bp_48 ?_
        refine g_iload_n hX dX6_ofPerson_86 rfl rfl ?_
        refine g_callV hX (As := [.int 48, .int a1]) (fun r => (some (.int r))) (fun _ => cm) (fun _ => mm) (fun _ => lm) (fun r hr => c_X3_get isOf1 hr) mi_X3_get ml_6_89 (okO isOf1 (by decide)) (e3_0 isOf1) rfl rfl rfl rfl rfl (Nat.le_of_ble_eq_true rfl) dX6_ofPerson_87 ?_
        intro x87 hx87
        exact g_iret hX (fun h => h) dX6_ofPerson_90
      refine g_tsw hX dX6_ofPerson_11 4 (by decide) (by decide) rfl rfl (fun h11_4 => ?_) (fun h11_4 => ?_)
      · refine g_aload_n hX dX6_ofPerson_91 rfl rfl ?_
        refine g_get hX fi_6_12 p6_0 e6_0 rfl dX6_ofPerson_92 ?_
        refine g_bipush hX dX6_ofPerson_95 bp_64 ?_
        refine g_iload_n hX dX6_ofPerson_97 rfl rfl ?_
        refine g_callV hX (As := [.int 64, .int a1]) (fun r => (some (.int r))) (fun _ => cm) (fun _ => mm) (fun _ => lm) (fun r hr => c_X3_get isOf1 hr) mi_X3_get ml_6_89 (okO isOf1 (by decide)) (e3_0 isOf1) rfl rfl rfl rfl rfl (Nat.le_of_ble_eq_true rfl) dX6_ofPerson_98 ?_
        intro x98 hx98
        exact g_iret hX (fun h => h) dX6_ofPerson_101
      refine g_tsw hX dX6_ofPerson_11 5 (by decide) (by decide) rfl rfl (fun h11_5 => ?_) (fun h11_5 => ?_)
      · refine g_aload_n hX dX6_ofPerson_102 rfl rfl ?_
        refine g_get hX fi_6_12 p6_0 e6_0 rfl dX6_ofPerson_103 ?_
        refine g_iload_n hX dX6_ofPerson_106 rfl rfl ?_
        refine g_callV hX (As := [.int a1]) (fun r => (some (.int r))) (fun _ => cm) (fun _ => mm) (fun _ => lm) (fun r hr => c_X3_countAhead isOf1 hr) mi_X3_countAhead ml_6_93 (okO isOf1 (by decide)) (e3_0 isOf1) rfl rfl rfl rfl rfl (Nat.le_of_ble_eq_true rfl) dX6_ofPerson_107 ?_
        intro x107 hx107
        exact g_iret hX (fun h => h) dX6_ofPerson_110
      refine g_tsd hX dX6_ofPerson_11 (sw_out (n := 6) (fun k hk => match k, hk with | 0, _ => h11_0 | 1, _ => h11_1 | 2, _ => h11_2 | 3, _ => h11_3 | 4, _ => h11_4 | 5, _ => h11_5)) rfl ?_
      refine g_bipush hX dX6_ofPerson_111 bp_m2 ?_
      exact g_iret hX (fun h => h) dX6_ofPerson_113
  exact g r h hF

def f_X6_presentChoice (cm : CM) : Option (CM) :=
  if (cm 0 0 7) = 0 then
    some cm
  else
    (f_X0_make cm 27 1).bind fun r15 =>
    (f_X0_assignGroups r15 27 1).bind fun r26 =>
    some (u3 r26 0 0 (upd (r26 0 0) 7 0))

abbrev rm_X6_presentChoice : Room := { frames := 6, cells := 0, slots := 0, locals := 144 }
set_option maxHeartbeats 2000000 in
set_option maxRecDepth 20000 in
theorem c_X6_presentChoice {Z : ZC} {cm : CM} {mm : MM} {lm : LM} {r : CM}  (h : f_X6_presentChoice cm = some r) : Ct Z yX6_presentChoice cX6_presentChoice 1 (some (.object "KeptSeats$Choice")) rm_X6_presentChoice [.ref (ad Z 0 0)] cm mm lm (some (.ref (ad Z 27 0))) r mm lm := by
  refine Ct_of (own := RX6) [some (.ref (ad Z 0 0))] ⟨by decide, rfl⟩ rfl (Nat.le_of_ble_eq_true rfl) rfl (fun X hX hF => ?_)
  have g : G (fun r : CM => Fx Z X (some (.object "KeptSeats$Choice")) (some (.ref (ad Z 27 0))) r mm lm) (f_X6_presentChoice cm) (J Z X 1 cm mm lm 0 [some (.ref (ad Z 0 0))] []) := by
    unfold f_X6_presentChoice
    refine g_aload_n hX dX6_presentChoice_0 rfl rfl ?_
    refine g_get hX fi_6_52 p6_0 e6_0 rfl dX6_presentChoice_1 ?_
    refine g_if_eq hX dX6_presentChoice_4 (fun h4 => ?_) (fun h4 => ?_)
    · refine g_aload_n hX dX6_presentChoice_34 rfl rfl ?_
      refine g_get hX fi_6_26 p6_0 e6_0 rfl dX6_presentChoice_35 ?_
      exact g_aret hX (Or.inr ⟨_, rfl⟩) (fun h => h) dX6_presentChoice_38
    · refine g_aload_n hX dX6_presentChoice_7 rfl rfl ?_
      refine g_get hX fi_6_26 p6_0 e6_0 rfl dX6_presentChoice_8 ?_
      refine g_aload_n hX dX6_presentChoice_11 rfl rfl ?_
      refine g_get hX fi_6_12 p6_0 e6_0 rfl dX6_presentChoice_12 ?_
      refine g_callV hX (As := [.ref (ad Z 1 0)]) (fun _ => none) (fun r => r) (fun _ => mm) (fun _ => lm) (fun r hr => c_X0_make isCh27 isOf1 hr) mi_X0_make ml_6_170 (okC isCh27 (by decide)) (e0_0 isCh27) rfl rfl rfl rfl rfl (Nat.le_of_ble_eq_true rfl) dX6_presentChoice_15 ?_
      intro r15 hr15
      refine g_aload_n hX dX6_presentChoice_18 rfl rfl ?_
      refine g_get hX fi_6_26 p6_0 e6_0 rfl dX6_presentChoice_19 ?_
      refine g_aload_n hX dX6_presentChoice_22 rfl rfl ?_
      refine g_get hX fi_6_12 p6_0 e6_0 rfl dX6_presentChoice_23 ?_
      refine g_callV hX (As := [.ref (ad Z 1 0)]) (fun _ => none) (fun r => r) (fun _ => mm) (fun _ => lm) (fun r hr => c_X0_assignGroups isCh27 isOf1 hr) mi_X0_assignGroups ml_6_184 (okC isCh27 (by decide)) (e0_0 isCh27) rfl rfl rfl rfl rfl (Nat.le_of_ble_eq_true rfl) dX6_presentChoice_26 ?_
      intro r26 hr26
      refine g_aload_n hX dX6_presentChoice_29 rfl rfl ?_
      refine g_iconst hX dX6_presentChoice_30 ic_0 ?_
      refine g_putC hX fi_6_52 p6_0 (by decide) (s6_0 Z) rfl (Nat.le_of_ble_eq_true rfl) tyX6_ok nmX6 rfl rfl (by decide) (by decide) dX6_presentChoice_31 ?_
      refine g_aload_n hX dX6_presentChoice_34 rfl rfl ?_
      refine g_get hX fi_6_26 p6_0 e6_0 rfl dX6_presentChoice_35 ?_
      exact g_aret hX (Or.inr ⟨_, rfl⟩) (fun h => h) dX6_presentChoice_38
  exact g r h hF

def f_X6_ranked (cm : CM) (a1 : Int32) : Option (Int32 × CM) :=
  (f_X6_isWithin a1 15).bind fun x3 =>
  if x3 = 0 then
    some ((-2), cm)
  else
    (f_X3_people cm 1).bind fun x17 =>
    if x17 ≤ a1 then
      some ((-9), cm)
    else
      (f_X6_presentChoice cm).bind fun r24 =>
      (f_X0_personAt r24 27 a1).bind fun x28 =>
      some (x28, r24)

abbrev rm_X6_ranked : Room := { frames := 7, cells := 0, slots := 0, locals := 164 }
set_option maxHeartbeats 2000000 in
set_option maxRecDepth 20000 in
theorem c_X6_ranked {Z : ZC} {cm : CM} {mm : MM} {lm : LM} {a1 : Int32} {r : Int32 × CM}  (h : f_X6_ranked cm a1 = some r) : Ct Z yX6_ranked cX6_ranked 2 (some .int) rm_X6_ranked [.ref (ad Z 0 0), .int a1] cm mm lm (some (.int r.1)) r.2 mm lm := by
  refine Ct_of (own := RX6) [some (.ref (ad Z 0 0)), some (.int a1)] ⟨by decide, rfl⟩ rfl (Nat.le_of_ble_eq_true rfl) rfl (fun X hX hF => ?_)
  have g : G (fun r : Int32 × CM => Fx Z X (some .int) (some (.int r.1)) r.2 mm lm) (f_X6_ranked cm a1) (J Z X 2 cm mm lm 0 [some (.ref (ad Z 0 0)), some (.int a1)] []) := by
    unfold f_X6_ranked
    refine g_iload_n hX dX6_ranked_0 rfl rfl ?_
    refine g_bipush hX dX6_ranked_1 bp_15 ?_
    refine g_callS hX (As := [.int a1, .int 15]) (fun r => (some (.int r))) (fun _ => cm) (fun _ => mm) (fun _ => lm) (fun r hr => c_X6_isWithin  hr) mi_X6_isWithin ml_6_56 rfl rfl rfl (Nat.le_of_ble_eq_true rfl) dX6_ranked_3 ?_
    intro x3 hx3
    refine g_if_ne hX dX6_ranked_6 (fun h6 => ?_) (fun h6 => ?_)
    · refine g_bipush hX dX6_ranked_9 bp_m2 ?_
      exact g_iret hX (fun h => h) dX6_ranked_11
    · refine g_iload_n hX dX6_ranked_12 rfl rfl ?_
      refine g_aload_n hX dX6_ranked_13 rfl rfl ?_
      refine g_get hX fi_6_12 p6_0 e6_0 rfl dX6_ranked_14 ?_
      refine g_callV hX (As := []) (fun r => (some (.int r))) (fun _ => cm) (fun _ => mm) (fun _ => lm) (fun r hr => c_X3_people isOf1 hr) mi_X3_people ml_6_67 (okO isOf1 (by decide)) (e3_0 isOf1) rfl rfl rfl rfl rfl (Nat.le_of_ble_eq_true rfl) dX6_ranked_17 ?_
      intro x17 hx17
      refine g_icmp_ge hX dX6_ranked_20 (fun h20 => ?_) (fun h20 => ?_)
      · refine g_bipush hX dX6_ranked_34 bp_m9 ?_
        exact g_iret hX (fun h => h) dX6_ranked_36
      · refine g_aload_n hX dX6_ranked_23 rfl rfl ?_
        refine g_callV hX (As := []) (fun _ => (some (.ref (ad Z 27 0)))) (fun r => r) (fun _ => mm) (fun _ => lm) (fun r hr => c_X6_presentChoice  hr) mi_X6_presentChoice ml_6_97 p6_0 e6_0 rfl rfl rfl rfl rfl (Nat.le_of_ble_eq_true rfl) dX6_ranked_24 ?_
        intro r24 hr24
        refine g_iload_n hX dX6_ranked_27 rfl rfl ?_
        refine g_callV hX (As := [.int a1]) (fun r => (some (.int r))) (fun _ => r24) (fun _ => mm) (fun _ => lm) (fun r hr => c_X0_personAt isCh27 hr) mi_X0_personAt ml_6_101 (okC isCh27 (by decide)) (e0_0 isCh27) rfl rfl rfl rfl rfl (Nat.le_of_ble_eq_true rfl) dX6_ranked_28 ?_
        intro x28 hx28
        refine g_goto hX dX6_ranked_31 ?_
        exact g_iret hX (fun h => h) dX6_ranked_36
  exact g r h hF

def f_X6_above_B17 (cm : CM) (a1 : Int32) (s17_2 : Int32) (s17_3 : Int32) : Option ((Int32 × Int32) ⊕ (Int32 × Int32)) :=
  (f_X3_people cm 1).bind fun x22 =>
  if x22 ≤ s17_3 then
    some (.inl (s17_2, s17_3))
  else
    (f_X3_get cm 1 0 s17_3).bind fun x34 =>
    if x34 ≤ a1 then
      some (.inr (s17_2, s17_3 + 1))
    else
      if s17_2 = (-9) then
        some (.inr (x34, s17_3 + 1))
      else
        if s17_2 ≤ x34 then
          some (.inr (s17_2, s17_3 + 1))
        else
          some (.inr (x34, s17_3 + 1))

def f_X6_above (cm : CM) (a1 : Int32) : Option (Int32) :=
  (f_X6_isWithin a1 99).bind fun x3 =>
  if x3 = 0 then
    some (-2)
  else
    (itr (fun s : Int32 × Int32 => f_X6_above_B17 cm a1 s.1 s.2) 2000 ((-9), 0)).bind fun (s17_2, s17_3) =>
    some s17_2

abbrev rm_X6_above : Room := { frames := 2, cells := 0, slots := 0, locals := 43 }
set_option maxHeartbeats 2000000 in
set_option maxRecDepth 20000 in
theorem c_X6_above {Z : ZC} {cm : CM} {mm : MM} {lm : LM} {a1 : Int32} {r : Int32}  (h : f_X6_above cm a1 = some r) : Ct Z yX6_above cX6_above 5 (some .int) rm_X6_above [.ref (ad Z 0 0), .int a1] cm mm lm (some (.int r)) cm mm lm := by
  refine Ct_of (own := RX6) [some (.ref (ad Z 0 0)), some (.int a1), none, none, none] ⟨by decide, rfl⟩ rfl (Nat.le_of_ble_eq_true rfl) rfl (fun X hX hF => ?_)
  have g : G (fun r : Int32 => Fx Z X (some .int) (some (.int r)) cm mm lm) (f_X6_above cm a1) (J Z X 5 cm mm lm 0 [some (.ref (ad Z 0 0)), some (.int a1), none, none, none] []) := by
    unfold f_X6_above
    refine g_iload_n hX dX6_above_0 rfl rfl ?_
    refine g_bipush hX dX6_above_1 bp_99 ?_
    refine g_callS hX (As := [.int a1, .int 99]) (fun r => (some (.int r))) (fun _ => cm) (fun _ => mm) (fun _ => lm) (fun r hr => c_X6_isWithin  hr) mi_X6_isWithin ml_6_56 rfl rfl rfl (Nat.le_of_ble_eq_true rfl) dX6_above_3 ?_
    intro x3 hx3
    refine g_if_ne hX dX6_above_6 (fun h6 => ?_) (fun h6 => ?_)
    · refine g_bipush hX dX6_above_9 bp_m2 ?_
      exact g_iret hX (fun h => h) dX6_above_11
    · refine g_bipush hX dX6_above_12 bp_m9 ?_
      refine g_istore_n hX dX6_above_14 rfl (Nat.le_of_ble_eq_true rfl) rfl ?_
      refine g_iconst hX dX6_above_15 ic_0 ?_
      refine g_istore_n hX dX6_above_16 rfl (Nat.le_of_ble_eq_true rfl) rfl ?_
      refine g_loop (Hd := fun s : Int32 × Int32 => J Z X 5 cm mm lm 17 [some (.ref (ad Z 0 0)), some (.int a1), some (.int s.1), some (.int s.2), none] []) (Ex := fun s : Int32 × Int32 => J Z X 5 cm mm lm 66 [some (.ref (ad Z 0 0)), some (.int a1), some (.int s.1), some (.int s.2), none] []) ?_ ?_
      · rintro ⟨s17_2, s17_3⟩
        show G _ (f_X6_above_B17 cm a1 s17_2 s17_3) (J Z X 5 cm mm lm 17 [some (.ref (ad Z 0 0)), some (.int a1), some (.int s17_2), some (.int s17_3), none] [])
        unfold f_X6_above_B17
        refine g_iload_n hX dX6_above_17 rfl rfl ?_
        refine g_aload_n hX dX6_above_18 rfl rfl ?_
        refine g_get hX fi_6_12 p6_0 e6_0 rfl dX6_above_19 ?_
        refine g_callV hX (As := []) (fun r => (some (.int r))) (fun _ => cm) (fun _ => mm) (fun _ => lm) (fun r hr => c_X3_people isOf1 hr) mi_X3_people ml_6_67 (okO isOf1 (by decide)) (e3_0 isOf1) rfl rfl rfl rfl rfl (Nat.le_of_ble_eq_true rfl) dX6_above_22 ?_
        intro x22 hx22
        refine g_icmp_ge hX dX6_above_25 (fun h25 => ?_) (fun h25 => ?_)
        · exact g_wk (lv0 := [some (.ref (ad Z 0 0)), some (.int a1), some (.int s17_2), some (.int s17_3), none]) ⟨rfl, rfl, rfl, rfl, trivial⟩ (g_end (fun h => h))
        · refine g_aload_n hX dX6_above_28 rfl rfl ?_
          refine g_get hX fi_6_12 p6_0 e6_0 rfl dX6_above_29 ?_
          refine g_iconst hX dX6_above_32 ic_0 ?_
          refine g_iload_n hX dX6_above_33 rfl rfl ?_
          refine g_callV hX (As := [.int 0, .int s17_3]) (fun r => (some (.int r))) (fun _ => cm) (fun _ => mm) (fun _ => lm) (fun r hr => c_X3_get isOf1 hr) mi_X3_get ml_6_89 (okO isOf1 (by decide)) (e3_0 isOf1) rfl rfl rfl rfl rfl (Nat.le_of_ble_eq_true rfl) dX6_above_34 ?_
          intro x34 hx34
          refine g_istore hX dX6_above_37 (Nat.le_of_ble_eq_true rfl) rfl ?_
          refine g_iload hX dX6_above_39 rfl ?_
          refine g_iload_n hX dX6_above_41 rfl rfl ?_
          refine g_icmp_le hX dX6_above_42 (fun h42 => ?_) (fun h42 => ?_)
          · refine g_iinc hX dX6_above_60 ic_1 rfl (Nat.le_of_ble_eq_true rfl) rfl ?_
            refine g_goto hX dX6_above_63 ?_
            exact g_wk (lv0 := [some (.ref (ad Z 0 0)), some (.int a1), some (.int s17_2), some (.int (s17_3 + 1)), none]) ⟨rfl, rfl, rfl, rfl, trivial⟩ (g_end (fun h => h))
          · refine g_iload_n hX dX6_above_45 rfl rfl ?_
            refine g_bipush hX dX6_above_46 bp_m9 ?_
            refine g_icmp_eq hX dX6_above_48 (fun h48 => ?_) (fun h48 => ?_)
            · refine g_iload hX dX6_above_57 rfl ?_
              refine g_istore_n hX dX6_above_59 rfl (Nat.le_of_ble_eq_true rfl) rfl ?_
              refine g_iinc hX dX6_above_60 ic_1 rfl (Nat.le_of_ble_eq_true rfl) rfl ?_
              refine g_goto hX dX6_above_63 ?_
              exact g_wk (lv0 := [some (.ref (ad Z 0 0)), some (.int a1), some (.int x34), some (.int (s17_3 + 1)), none]) ⟨rfl, rfl, rfl, rfl, trivial⟩ (g_end (fun h => h))
            · refine g_iload hX dX6_above_51 rfl ?_
              refine g_iload_n hX dX6_above_53 rfl rfl ?_
              refine g_icmp_ge hX dX6_above_54 (fun h54 => ?_) (fun h54 => ?_)
              · refine g_iinc hX dX6_above_60 ic_1 rfl (Nat.le_of_ble_eq_true rfl) rfl ?_
                refine g_goto hX dX6_above_63 ?_
                exact g_wk (lv0 := [some (.ref (ad Z 0 0)), some (.int a1), some (.int s17_2), some (.int (s17_3 + 1)), none]) ⟨rfl, rfl, rfl, rfl, trivial⟩ (g_end (fun h => h))
              · refine g_iload hX dX6_above_57 rfl ?_
                refine g_istore_n hX dX6_above_59 rfl (Nat.le_of_ble_eq_true rfl) rfl ?_
                refine g_iinc hX dX6_above_60 ic_1 rfl (Nat.le_of_ble_eq_true rfl) rfl ?_
                refine g_goto hX dX6_above_63 ?_
                exact g_wk (lv0 := [some (.ref (ad Z 0 0)), some (.int a1), some (.int x34), some (.int (s17_3 + 1)), none]) ⟨rfl, rfl, rfl, rfl, trivial⟩ (g_end (fun h => h))
      · rintro ⟨s17_2, s17_3⟩
        show G _ _ (J Z X 5 cm mm lm 66 [some (.ref (ad Z 0 0)), some (.int a1), some (.int s17_2), some (.int s17_3), none] [])
        refine g_iload_n hX dX6_above_66 rfl rfl ?_
        exact g_iret hX (fun h => h) dX6_above_67
  exact g r h hF

def f_X6_alike (cm : CM) (a1 : Int32) : Option (Int32) :=
  (f_X6_isWithin a1 99).bind fun x3 =>
  if x3 = 0 then
    some (-2)
  else
    (f_X3_countWith cm 1 0 a1).bind fun x18 =>
    some x18

abbrev rm_X6_alike : Room := { frames := 3, cells := 0, slots := 0, locals := 67 }
set_option maxHeartbeats 2000000 in
set_option maxRecDepth 20000 in
theorem c_X6_alike {Z : ZC} {cm : CM} {mm : MM} {lm : LM} {a1 : Int32} {r : Int32}  (h : f_X6_alike cm a1 = some r) : Ct Z yX6_alike cX6_alike 2 (some .int) rm_X6_alike [.ref (ad Z 0 0), .int a1] cm mm lm (some (.int r)) cm mm lm := by
  refine Ct_of (own := RX6) [some (.ref (ad Z 0 0)), some (.int a1)] ⟨by decide, rfl⟩ rfl (Nat.le_of_ble_eq_true rfl) rfl (fun X hX hF => ?_)
  have g : G (fun r : Int32 => Fx Z X (some .int) (some (.int r)) cm mm lm) (f_X6_alike cm a1) (J Z X 2 cm mm lm 0 [some (.ref (ad Z 0 0)), some (.int a1)] []) := by
    unfold f_X6_alike
    refine g_iload_n hX dX6_alike_0 rfl rfl ?_
    refine g_bipush hX dX6_alike_1 bp_99 ?_
    refine g_callS hX (As := [.int a1, .int 99]) (fun r => (some (.int r))) (fun _ => cm) (fun _ => mm) (fun _ => lm) (fun r hr => c_X6_isWithin  hr) mi_X6_isWithin ml_6_56 rfl rfl rfl (Nat.le_of_ble_eq_true rfl) dX6_alike_3 ?_
    intro x3 hx3
    refine g_if_ne hX dX6_alike_6 (fun h6 => ?_) (fun h6 => ?_)
    · refine g_bipush hX dX6_alike_9 bp_m2 ?_
      exact g_iret hX (fun h => h) dX6_alike_11
    · refine g_aload_n hX dX6_alike_12 rfl rfl ?_
      refine g_get hX fi_6_12 p6_0 e6_0 rfl dX6_alike_13 ?_
      refine g_iconst hX dX6_alike_16 ic_0 ?_
      refine g_iload_n hX dX6_alike_17 rfl rfl ?_
      refine g_callV hX (As := [.int 0, .int a1]) (fun r => (some (.int r))) (fun _ => cm) (fun _ => mm) (fun _ => lm) (fun r hr => c_X3_countWith isOf1 hr) mi_X3_countWith ml_6_104 (okO isOf1 (by decide)) (e3_0 isOf1) rfl rfl rfl rfl rfl (Nat.le_of_ble_eq_true rfl) dX6_alike_18 ?_
      intro x18 hx18
      exact g_iret hX (fun h => h) dX6_alike_21
  exact g r h hF

def f_X6_seats (cm : CM) (a1 a2 : Int32) : Option (Int32 × CM) :=
  (f_X6_isKind a1).bind fun x1 =>
  if x1 = 0 then
    some ((-1), cm)
  else
    (f_X6_isWithin a2 9).bind fun x12 =>
    if x12 = 0 then
      some ((-2), cm)
    else
      (f_X6_change cm 128 a1 a2).bind fun r24 =>
      some (r24.1, r24.2)

abbrev rm_X6_seats : Room := { frames := 5, cells := 0, slots := 0, locals := 127 }
set_option maxHeartbeats 2000000 in
set_option maxRecDepth 20000 in
theorem c_X6_seats {Z : ZC} {cm : CM} {mm : MM} {lm : LM} {a1 a2 : Int32} {r : Int32 × CM}  (h : f_X6_seats cm a1 a2 = some r) : Ct Z yX6_seats cX6_seats 3 (some .int) rm_X6_seats [.ref (ad Z 0 0), .int a1, .int a2] cm mm lm (some (.int r.1)) r.2 mm lm := by
  refine Ct_of (own := RX6) [some (.ref (ad Z 0 0)), some (.int a1), some (.int a2)] ⟨by decide, rfl⟩ rfl (Nat.le_of_ble_eq_true rfl) rfl (fun X hX hF => ?_)
  have g : G (fun r : Int32 × CM => Fx Z X (some .int) (some (.int r.1)) r.2 mm lm) (f_X6_seats cm a1 a2) (J Z X 3 cm mm lm 0 [some (.ref (ad Z 0 0)), some (.int a1), some (.int a2)] []) := by
    unfold f_X6_seats
    refine g_iload_n hX dX6_seats_0 rfl rfl ?_
    refine g_callS hX (As := [.int a1]) (fun r => (some (.int r))) (fun _ => cm) (fun _ => mm) (fun _ => lm) (fun r hr => c_X6_isKind  hr) mi_X6_isKind ml_6_60 rfl rfl rfl (Nat.le_of_ble_eq_true rfl) dX6_seats_1 ?_
    intro x1 hx1
    refine g_if_ne hX dX6_seats_4 (fun h4 => ?_) (fun h4 => ?_)
    · refine g_iconst hX dX6_seats_7 ic_m1 ?_
      exact g_iret hX (fun h => h) dX6_seats_8
    · refine g_iload_n hX dX6_seats_9 rfl rfl ?_
      refine g_bipush hX dX6_seats_10 bp_9 ?_
      refine g_callS hX (As := [.int a2, .int 9]) (fun r => (some (.int r))) (fun _ => cm) (fun _ => mm) (fun _ => lm) (fun r hr => c_X6_isWithin  hr) mi_X6_isWithin ml_6_56 rfl rfl rfl (Nat.le_of_ble_eq_true rfl) dX6_seats_12 ?_
      intro x12 hx12
      refine g_if_eq hX dX6_seats_15 (fun h15 => ?_) (fun h15 => ?_)
      · refine g_bipush hX dX6_seats_30 bp_m2 ?_
        exact g_iret hX (fun h => h) dX6_seats_32
      · refine g_aload_n hX dX6_seats_18 rfl rfl ?_
        refine g_sipush hX dX6_seats_19 sp_128 ?_
        refine g_iload_n hX dX6_seats_22 rfl rfl ?_
        refine g_iload_n hX dX6_seats_23 rfl rfl ?_
        refine g_callV hX (As := [.int 128, .int a1, .int a2]) (fun r => (some (.int r.1))) (fun r => r.2) (fun _ => mm) (fun _ => lm) (fun r hr => c_X6_change  hr) mi_X6_change ml_6_107 p6_0 e6_0 rfl rfl rfl rfl rfl (Nat.le_of_ble_eq_true rfl) dX6_seats_24 ?_
        intro r24 hr24
        refine g_goto hX dX6_seats_27 ?_
        exact g_iret hX (fun h => h) dX6_seats_32
  exact g r h hF

def f_X6_reserve (cm : CM) (a1 a2 a3 : Int32) : Option (Int32 × CM) :=
  (f_X6_isKind a1).bind fun x1 =>
  if x1 = 0 then
    some ((-1), cm)
  else
    (f_X6_isGroup a2).bind fun x8 =>
    if x8 = 0 then
      some ((-1), cm)
    else
      (f_X6_isWithin a3 5).bind fun x18 =>
      if x18 = 0 then
        some ((-2), cm)
      else
        (f_X6_change cm 132 ((a1 * 4) + a2) a3).bind fun r34 =>
        some (r34.1, r34.2)

abbrev rm_X6_reserve : Room := { frames := 5, cells := 0, slots := 0, locals := 127 }
set_option maxHeartbeats 2000000 in
set_option maxRecDepth 20000 in
theorem c_X6_reserve {Z : ZC} {cm : CM} {mm : MM} {lm : LM} {a1 a2 a3 : Int32} {r : Int32 × CM}  (h : f_X6_reserve cm a1 a2 a3 = some r) : Ct Z yX6_reserve cX6_reserve 4 (some .int) rm_X6_reserve [.ref (ad Z 0 0), .int a1, .int a2, .int a3] cm mm lm (some (.int r.1)) r.2 mm lm := by
  refine Ct_of (own := RX6) [some (.ref (ad Z 0 0)), some (.int a1), some (.int a2), some (.int a3)] ⟨by decide, rfl⟩ rfl (Nat.le_of_ble_eq_true rfl) rfl (fun X hX hF => ?_)
  have g : G (fun r : Int32 × CM => Fx Z X (some .int) (some (.int r.1)) r.2 mm lm) (f_X6_reserve cm a1 a2 a3) (J Z X 4 cm mm lm 0 [some (.ref (ad Z 0 0)), some (.int a1), some (.int a2), some (.int a3)] []) := by
    unfold f_X6_reserve
    refine g_iload_n hX dX6_reserve_0 rfl rfl ?_
    refine g_callS hX (As := [.int a1]) (fun r => (some (.int r))) (fun _ => cm) (fun _ => mm) (fun _ => lm) (fun r hr => c_X6_isKind  hr) mi_X6_isKind ml_6_60 rfl rfl rfl (Nat.le_of_ble_eq_true rfl) dX6_reserve_1 ?_
    intro x1 hx1
    refine g_if_eq hX dX6_reserve_4 (fun h4 => ?_) (fun h4 => ?_)
    · refine g_iconst hX dX6_reserve_14 ic_m1 ?_
      exact g_iret hX (fun h => h) dX6_reserve_15
    · refine g_iload_n hX dX6_reserve_7 rfl rfl ?_
      refine g_callS hX (As := [.int a2]) (fun r => (some (.int r))) (fun _ => cm) (fun _ => mm) (fun _ => lm) (fun r hr => c_X6_isGroup  hr) mi_X6_isGroup ml_6_111 rfl rfl rfl (Nat.le_of_ble_eq_true rfl) dX6_reserve_8 ?_
      intro x8 hx8
      refine g_if_ne hX dX6_reserve_11 (fun h11 => ?_) (fun h11 => ?_)
      · refine g_iconst hX dX6_reserve_14 ic_m1 ?_
        exact g_iret hX (fun h => h) dX6_reserve_15
      · refine g_iload_n hX dX6_reserve_16 rfl rfl ?_
        refine g_iconst hX dX6_reserve_17 ic_5 ?_
        refine g_callS hX (As := [.int a3, .int 5]) (fun r => (some (.int r))) (fun _ => cm) (fun _ => mm) (fun _ => lm) (fun r hr => c_X6_isWithin  hr) mi_X6_isWithin ml_6_56 rfl rfl rfl (Nat.le_of_ble_eq_true rfl) dX6_reserve_18 ?_
        intro x18 hx18
        refine g_if_eq hX dX6_reserve_21 (fun h21 => ?_) (fun h21 => ?_)
        · refine g_bipush hX dX6_reserve_40 bp_m2 ?_
          exact g_iret hX (fun h => h) dX6_reserve_42
        · refine g_aload_n hX dX6_reserve_24 rfl rfl ?_
          refine g_sipush hX dX6_reserve_25 sp_132 ?_
          refine g_iload_n hX dX6_reserve_28 rfl rfl ?_
          refine g_iconst hX dX6_reserve_29 ic_4 ?_
          refine g_imul hX dX6_reserve_30 ?_
          refine g_iload_n hX dX6_reserve_31 rfl rfl ?_
          refine g_iadd hX dX6_reserve_32 ?_
          refine g_iload_n hX dX6_reserve_33 rfl rfl ?_
          refine g_callV hX (As := [.int 132, .int ((a1 * 4) + a2), .int a3]) (fun r => (some (.int r.1))) (fun r => r.2) (fun _ => mm) (fun _ => lm) (fun r hr => c_X6_change  hr) mi_X6_change ml_6_107 p6_0 e6_0 rfl rfl rfl rfl rfl (Nat.le_of_ble_eq_true rfl) dX6_reserve_34 ?_
          intro r34 hr34
          refine g_goto hX dX6_reserve_37 ?_
          exact g_iret hX (fun h => h) dX6_reserve_42
  exact g r h hF

def f_X6_heir (cm : CM) (a1 a2 : Int32) : Option (Int32 × CM) :=
  (f_X6_isKind a1).bind fun x1 =>
  if x1 = 0 then
    some ((-1), cm)
  else
    if a1 = 0 then
      some ((-1), cm)
    else
      (f_X6_isKind a2).bind fun x14 =>
      if x14 = 0 then
        if a2 = (-9) then
          (f_X6_change cm 148 a1 a2).bind fun r32 =>
          some (r32.1, r32.2)
        else
          some ((-2), cm)
      else
        (f_X6_change cm 148 a1 a2).bind fun r32 =>
        some (r32.1, r32.2)

abbrev rm_X6_heir : Room := { frames := 5, cells := 0, slots := 0, locals := 127 }
set_option maxHeartbeats 2000000 in
set_option maxRecDepth 20000 in
theorem c_X6_heir {Z : ZC} {cm : CM} {mm : MM} {lm : LM} {a1 a2 : Int32} {r : Int32 × CM}  (h : f_X6_heir cm a1 a2 = some r) : Ct Z yX6_heir cX6_heir 3 (some .int) rm_X6_heir [.ref (ad Z 0 0), .int a1, .int a2] cm mm lm (some (.int r.1)) r.2 mm lm := by
  refine Ct_of (own := RX6) [some (.ref (ad Z 0 0)), some (.int a1), some (.int a2)] ⟨by decide, rfl⟩ rfl (Nat.le_of_ble_eq_true rfl) rfl (fun X hX hF => ?_)
  have g : G (fun r : Int32 × CM => Fx Z X (some .int) (some (.int r.1)) r.2 mm lm) (f_X6_heir cm a1 a2) (J Z X 3 cm mm lm 0 [some (.ref (ad Z 0 0)), some (.int a1), some (.int a2)] []) := by
    unfold f_X6_heir
    refine g_iload_n hX dX6_heir_0 rfl rfl ?_
    refine g_callS hX (As := [.int a1]) (fun r => (some (.int r))) (fun _ => cm) (fun _ => mm) (fun _ => lm) (fun r hr => c_X6_isKind  hr) mi_X6_isKind ml_6_60 rfl rfl rfl (Nat.le_of_ble_eq_true rfl) dX6_heir_1 ?_
    intro x1 hx1
    refine g_if_eq hX dX6_heir_4 (fun h4 => ?_) (fun h4 => ?_)
    · refine g_iconst hX dX6_heir_11 ic_m1 ?_
      exact g_iret hX (fun h => h) dX6_heir_12
    · refine g_iload_n hX dX6_heir_7 rfl rfl ?_
      refine g_if_ne hX dX6_heir_8 (fun h8 => ?_) (fun h8 => ?_)
      · refine g_iconst hX dX6_heir_11 ic_m1 ?_
        exact g_iret hX (fun h => h) dX6_heir_12
      · refine g_iload_n hX dX6_heir_13 rfl rfl ?_
        refine g_callS hX (As := [.int a2]) (fun r => (some (.int r))) (fun _ => cm) (fun _ => mm) (fun _ => lm) (fun r hr => c_X6_isKind  hr) mi_X6_isKind ml_6_60 rfl rfl rfl (Nat.le_of_ble_eq_true rfl) dX6_heir_14 ?_
        intro x14 hx14
        refine g_if_ne hX dX6_heir_17 (fun h17 => ?_) (fun h17 => ?_)
        · refine g_iload_n hX dX6_heir_20 rfl rfl ?_
          refine g_bipush hX dX6_heir_21 bp_m9 ?_
          refine g_icmp_ne hX dX6_heir_23 (fun h23 => ?_) (fun h23 => ?_)
          · refine g_aload_n hX dX6_heir_26 rfl rfl ?_
            refine g_sipush hX dX6_heir_27 sp_148 ?_
            refine g_iload_n hX dX6_heir_30 rfl rfl ?_
            refine g_iload_n hX dX6_heir_31 rfl rfl ?_
            refine g_callV hX (As := [.int 148, .int a1, .int a2]) (fun r => (some (.int r.1))) (fun r => r.2) (fun _ => mm) (fun _ => lm) (fun r hr => c_X6_change  hr) mi_X6_change ml_6_107 p6_0 e6_0 rfl rfl rfl rfl rfl (Nat.le_of_ble_eq_true rfl) dX6_heir_32 ?_
            intro r32 hr32
            refine g_goto hX dX6_heir_35 ?_
            exact g_iret hX (fun h => h) dX6_heir_40
          · refine g_bipush hX dX6_heir_38 bp_m2 ?_
            exact g_iret hX (fun h => h) dX6_heir_40
        · refine g_aload_n hX dX6_heir_26 rfl rfl ?_
          refine g_sipush hX dX6_heir_27 sp_148 ?_
          refine g_iload_n hX dX6_heir_30 rfl rfl ?_
          refine g_iload_n hX dX6_heir_31 rfl rfl ?_
          refine g_callV hX (As := [.int 148, .int a1, .int a2]) (fun r => (some (.int r.1))) (fun r => r.2) (fun _ => mm) (fun _ => lm) (fun r hr => c_X6_change  hr) mi_X6_change ml_6_107 p6_0 e6_0 rfl rfl rfl rfl rfl (Nat.le_of_ble_eq_true rfl) dX6_heir_32 ?_
          intro r32 hr32
          refine g_goto hX dX6_heir_35 ?_
          exact g_iret hX (fun h => h) dX6_heir_40
  exact g r h hF

def f_X6_manner (cm : CM) (a1 : Int32) : Option (Int32 × CM) :=
  (f_X6_isWithin a1 2).bind fun x2 =>
  if x2 = 0 then
    some ((-2), cm)
  else
    (f_X6_change cm 156 0 a1).bind fun r14 =>
    some (r14.1, r14.2)

abbrev rm_X6_manner : Room := { frames := 5, cells := 0, slots := 0, locals := 127 }
set_option maxHeartbeats 2000000 in
set_option maxRecDepth 20000 in
theorem c_X6_manner {Z : ZC} {cm : CM} {mm : MM} {lm : LM} {a1 : Int32} {r : Int32 × CM}  (h : f_X6_manner cm a1 = some r) : Ct Z yX6_manner cX6_manner 2 (some .int) rm_X6_manner [.ref (ad Z 0 0), .int a1] cm mm lm (some (.int r.1)) r.2 mm lm := by
  refine Ct_of (own := RX6) [some (.ref (ad Z 0 0)), some (.int a1)] ⟨by decide, rfl⟩ rfl (Nat.le_of_ble_eq_true rfl) rfl (fun X hX hF => ?_)
  have g : G (fun r : Int32 × CM => Fx Z X (some .int) (some (.int r.1)) r.2 mm lm) (f_X6_manner cm a1) (J Z X 2 cm mm lm 0 [some (.ref (ad Z 0 0)), some (.int a1)] []) := by
    unfold f_X6_manner
    refine g_iload_n hX dX6_manner_0 rfl rfl ?_
    refine g_iconst hX dX6_manner_1 ic_2 ?_
    refine g_callS hX (As := [.int a1, .int 2]) (fun r => (some (.int r))) (fun _ => cm) (fun _ => mm) (fun _ => lm) (fun r hr => c_X6_isWithin  hr) mi_X6_isWithin ml_6_56 rfl rfl rfl (Nat.le_of_ble_eq_true rfl) dX6_manner_2 ?_
    intro x2 hx2
    refine g_if_eq hX dX6_manner_5 (fun h5 => ?_) (fun h5 => ?_)
    · refine g_bipush hX dX6_manner_20 bp_m2 ?_
      exact g_iret hX (fun h => h) dX6_manner_22
    · refine g_aload_n hX dX6_manner_8 rfl rfl ?_
      refine g_sipush hX dX6_manner_9 sp_156 ?_
      refine g_iconst hX dX6_manner_12 ic_0 ?_
      refine g_iload_n hX dX6_manner_13 rfl rfl ?_
      refine g_callV hX (As := [.int 156, .int 0, .int a1]) (fun r => (some (.int r.1))) (fun r => r.2) (fun _ => mm) (fun _ => lm) (fun r hr => c_X6_change  hr) mi_X6_change ml_6_107 p6_0 e6_0 rfl rfl rfl rfl rfl (Nat.le_of_ble_eq_true rfl) dX6_manner_14 ?_
      intro r14 hr14
      refine g_goto hX dX6_manner_17 ?_
      exact g_iret hX (fun h => h) dX6_manner_22
  exact g r h hF

def f_X6_order (cm : CM) (a1 a2 a3 a4 : Int32) : Option (Int32 × CM) :=
  (f_X6_isOrder a1 a2 a3 a4).bind fun x5 =>
  if x5 = 0 then
    some ((-2), cm)
  else
    (f_X6_beginAct cm).bind fun r15 =>
    (f_X3_setOrder r15 1 a1 a2 a3 a4).bind fun r27 =>
    some (1, r27)

abbrev rm_X6_order : Room := { frames := 4, cells := 0, slots := 0, locals := 103 }
set_option maxHeartbeats 2000000 in
set_option maxRecDepth 20000 in
theorem c_X6_order {Z : ZC} {cm : CM} {mm : MM} {lm : LM} {a1 a2 a3 a4 : Int32} {r : Int32 × CM}  (h : f_X6_order cm a1 a2 a3 a4 = some r) : Ct Z yX6_order cX6_order 5 (some .int) rm_X6_order [.ref (ad Z 0 0), .int a1, .int a2, .int a3, .int a4] cm mm lm (some (.int r.1)) r.2 mm lm := by
  refine Ct_of (own := RX6) [some (.ref (ad Z 0 0)), some (.int a1), some (.int a2), some (.int a3), some (.int a4)] ⟨by decide, rfl⟩ rfl (Nat.le_of_ble_eq_true rfl) rfl (fun X hX hF => ?_)
  have g : G (fun r : Int32 × CM => Fx Z X (some .int) (some (.int r.1)) r.2 mm lm) (f_X6_order cm a1 a2 a3 a4) (J Z X 5 cm mm lm 0 [some (.ref (ad Z 0 0)), some (.int a1), some (.int a2), some (.int a3), some (.int a4)] []) := by
    unfold f_X6_order
    refine g_iload_n hX dX6_order_0 rfl rfl ?_
    refine g_iload_n hX dX6_order_1 rfl rfl ?_
    refine g_iload_n hX dX6_order_2 rfl rfl ?_
    refine g_iload hX dX6_order_3 rfl ?_
    refine g_callS hX (As := [.int a1, .int a2, .int a3, .int a4]) (fun r => (some (.int r))) (fun _ => cm) (fun _ => mm) (fun _ => lm) (fun r hr => c_X6_isOrder  hr) mi_X6_isOrder ml_6_114 rfl rfl rfl (Nat.le_of_ble_eq_true rfl) dX6_order_5 ?_
    intro x5 hx5
    refine g_if_ne hX dX6_order_8 (fun h8 => ?_) (fun h8 => ?_)
    · refine g_bipush hX dX6_order_11 bp_m2 ?_
      exact g_iret hX (fun h => h) dX6_order_13
    · refine g_aload_n hX dX6_order_14 rfl rfl ?_
      refine g_callV hX (As := []) (fun _ => none) (fun r => r) (fun _ => mm) (fun _ => lm) (fun r hr => c_X6_beginAct  hr) mi_X6_beginAct ml_6_71 p6_0 e6_0 rfl rfl rfl rfl rfl (Nat.le_of_ble_eq_true rfl) dX6_order_15 ?_
      intro r15 hr15
      refine g_aload_n hX dX6_order_18 rfl rfl ?_
      refine g_get hX fi_6_12 p6_0 e6_0 rfl dX6_order_19 ?_
      refine g_iload_n hX dX6_order_22 rfl rfl ?_
      refine g_iload_n hX dX6_order_23 rfl rfl ?_
      refine g_iload_n hX dX6_order_24 rfl rfl ?_
      refine g_iload hX dX6_order_25 rfl ?_
      refine g_callV hX (As := [.int a1, .int a2, .int a3, .int a4]) (fun _ => none) (fun r => r) (fun _ => mm) (fun _ => lm) (fun r hr => c_X3_setOrder isOf1 hr) mi_X3_setOrder ml_6_118 (okO isOf1 (by decide)) (e3_0 isOf1) rfl rfl rfl rfl rfl (Nat.le_of_ble_eq_true rfl) dX6_order_27 ?_
      intro r27 hr27
      refine g_iconst hX dX6_order_30 ic_1 ?_
      exact g_iret hX (fun h => h) dX6_order_31
  exact g r h hF

def f_X6_seat (cm : CM) (a1 : Int32) : Option (Int32 × CM) :=
  (f_X6_isPerson cm a1).bind fun x2 =>
  if x2 = 0 then
    some ((-1), cm)
  else
    (f_X6_presentChoice cm).bind fun r9 =>
    (f_X0_seatOf r9 27 a1).bind fun x13 =>
    some (x13, r9)

abbrev rm_X6_seat : Room := { frames := 7, cells := 0, slots := 0, locals := 164 }
set_option maxHeartbeats 2000000 in
set_option maxRecDepth 20000 in
theorem c_X6_seat {Z : ZC} {cm : CM} {mm : MM} {lm : LM} {a1 : Int32} {r : Int32 × CM}  (h : f_X6_seat cm a1 = some r) : Ct Z yX6_seat cX6_seat 2 (some .int) rm_X6_seat [.ref (ad Z 0 0), .int a1] cm mm lm (some (.int r.1)) r.2 mm lm := by
  refine Ct_of (own := RX6) [some (.ref (ad Z 0 0)), some (.int a1)] ⟨by decide, rfl⟩ rfl (Nat.le_of_ble_eq_true rfl) rfl (fun X hX hF => ?_)
  have g : G (fun r : Int32 × CM => Fx Z X (some .int) (some (.int r.1)) r.2 mm lm) (f_X6_seat cm a1) (J Z X 2 cm mm lm 0 [some (.ref (ad Z 0 0)), some (.int a1)] []) := by
    unfold f_X6_seat
    refine g_aload_n hX dX6_seat_0 rfl rfl ?_
    refine g_iload_n hX dX6_seat_1 rfl rfl ?_
    refine g_callV hX (As := [.int a1]) (fun r => (some (.int r))) (fun _ => cm) (fun _ => mm) (fun _ => lm) (fun r hr => c_X6_isPerson  hr) mi_X6_isPerson ml_6_86 p6_0 e6_0 rfl rfl rfl rfl rfl (Nat.le_of_ble_eq_true rfl) dX6_seat_2 ?_
    intro x2 hx2
    refine g_if_eq hX dX6_seat_5 (fun h5 => ?_) (fun h5 => ?_)
    · refine g_iconst hX dX6_seat_19 ic_m1 ?_
      exact g_iret hX (fun h => h) dX6_seat_20
    · refine g_aload_n hX dX6_seat_8 rfl rfl ?_
      refine g_callV hX (As := []) (fun _ => (some (.ref (ad Z 27 0)))) (fun r => r) (fun _ => mm) (fun _ => lm) (fun r hr => c_X6_presentChoice  hr) mi_X6_presentChoice ml_6_97 p6_0 e6_0 rfl rfl rfl rfl rfl (Nat.le_of_ble_eq_true rfl) dX6_seat_9 ?_
      intro r9 hr9
      refine g_iload_n hX dX6_seat_12 rfl rfl ?_
      refine g_callV hX (As := [.int a1]) (fun r => (some (.int r))) (fun _ => r9) (fun _ => mm) (fun _ => lm) (fun r hr => c_X0_seatOf isCh27 hr) mi_X0_seatOf ml_6_122 (okC isCh27 (by decide)) (e0_0 isCh27) rfl rfl rfl rfl rfl (Nat.le_of_ble_eq_true rfl) dX6_seat_13 ?_
      intro x13 hx13
      refine g_goto hX dX6_seat_16 ?_
      exact g_iret hX (fun h => h) dX6_seat_20
  exact g r h hF

def f_X6_counted (cm : CM) (a1 : Int32) : Option (Int32 × CM) :=
  (f_X6_isPerson cm a1).bind fun x2 =>
  if x2 = 0 then
    some ((-1), cm)
  else
    (f_X6_presentChoice cm).bind fun r9 =>
    (f_X0_groupOf r9 27 a1).bind fun x13 =>
    some (x13, r9)

abbrev rm_X6_counted : Room := { frames := 7, cells := 0, slots := 0, locals := 164 }
set_option maxHeartbeats 2000000 in
set_option maxRecDepth 20000 in
theorem c_X6_counted {Z : ZC} {cm : CM} {mm : MM} {lm : LM} {a1 : Int32} {r : Int32 × CM}  (h : f_X6_counted cm a1 = some r) : Ct Z yX6_counted cX6_counted 2 (some .int) rm_X6_counted [.ref (ad Z 0 0), .int a1] cm mm lm (some (.int r.1)) r.2 mm lm := by
  refine Ct_of (own := RX6) [some (.ref (ad Z 0 0)), some (.int a1)] ⟨by decide, rfl⟩ rfl (Nat.le_of_ble_eq_true rfl) rfl (fun X hX hF => ?_)
  have g : G (fun r : Int32 × CM => Fx Z X (some .int) (some (.int r.1)) r.2 mm lm) (f_X6_counted cm a1) (J Z X 2 cm mm lm 0 [some (.ref (ad Z 0 0)), some (.int a1)] []) := by
    unfold f_X6_counted
    refine g_aload_n hX dX6_counted_0 rfl rfl ?_
    refine g_iload_n hX dX6_counted_1 rfl rfl ?_
    refine g_callV hX (As := [.int a1]) (fun r => (some (.int r))) (fun _ => cm) (fun _ => mm) (fun _ => lm) (fun r hr => c_X6_isPerson  hr) mi_X6_isPerson ml_6_86 p6_0 e6_0 rfl rfl rfl rfl rfl (Nat.le_of_ble_eq_true rfl) dX6_counted_2 ?_
    intro x2 hx2
    refine g_if_eq hX dX6_counted_5 (fun h5 => ?_) (fun h5 => ?_)
    · refine g_iconst hX dX6_counted_19 ic_m1 ?_
      exact g_iret hX (fun h => h) dX6_counted_20
    · refine g_aload_n hX dX6_counted_8 rfl rfl ?_
      refine g_callV hX (As := []) (fun _ => (some (.ref (ad Z 27 0)))) (fun r => r) (fun _ => mm) (fun _ => lm) (fun r hr => c_X6_presentChoice  hr) mi_X6_presentChoice ml_6_97 p6_0 e6_0 rfl rfl rfl rfl rfl (Nat.le_of_ble_eq_true rfl) dX6_counted_9 ?_
      intro r9 hr9
      refine g_iload_n hX dX6_counted_12 rfl rfl ?_
      refine g_callV hX (As := [.int a1]) (fun r => (some (.int r))) (fun _ => r9) (fun _ => mm) (fun _ => lm) (fun r hr => c_X0_groupOf isCh27 hr) mi_X0_groupOf ml_6_125 (okC isCh27 (by decide)) (e0_0 isCh27) rfl rfl rfl rfl rfl (Nat.le_of_ble_eq_true rfl) dX6_counted_13 ?_
      intro x13 hx13
      refine g_goto hX dX6_counted_16 ?_
      exact g_iret hX (fun h => h) dX6_counted_20
  exact g r h hF

def f_X6_handed (cm : CM) (a1 : Int32) : Option (Int32 × CM) :=
  (f_X6_isPerson cm a1).bind fun x2 =>
  if x2 = 0 then
    some ((-1), cm)
  else
    (f_X6_presentChoice cm).bind fun r9 =>
    (f_X0_handedTo r9 27 a1).bind fun x13 =>
    some (x13, r9)

abbrev rm_X6_handed : Room := { frames := 7, cells := 0, slots := 0, locals := 164 }
set_option maxHeartbeats 2000000 in
set_option maxRecDepth 20000 in
theorem c_X6_handed {Z : ZC} {cm : CM} {mm : MM} {lm : LM} {a1 : Int32} {r : Int32 × CM}  (h : f_X6_handed cm a1 = some r) : Ct Z yX6_handed cX6_handed 2 (some .int) rm_X6_handed [.ref (ad Z 0 0), .int a1] cm mm lm (some (.int r.1)) r.2 mm lm := by
  refine Ct_of (own := RX6) [some (.ref (ad Z 0 0)), some (.int a1)] ⟨by decide, rfl⟩ rfl (Nat.le_of_ble_eq_true rfl) rfl (fun X hX hF => ?_)
  have g : G (fun r : Int32 × CM => Fx Z X (some .int) (some (.int r.1)) r.2 mm lm) (f_X6_handed cm a1) (J Z X 2 cm mm lm 0 [some (.ref (ad Z 0 0)), some (.int a1)] []) := by
    unfold f_X6_handed
    refine g_aload_n hX dX6_handed_0 rfl rfl ?_
    refine g_iload_n hX dX6_handed_1 rfl rfl ?_
    refine g_callV hX (As := [.int a1]) (fun r => (some (.int r))) (fun _ => cm) (fun _ => mm) (fun _ => lm) (fun r hr => c_X6_isPerson  hr) mi_X6_isPerson ml_6_86 p6_0 e6_0 rfl rfl rfl rfl rfl (Nat.le_of_ble_eq_true rfl) dX6_handed_2 ?_
    intro x2 hx2
    refine g_if_eq hX dX6_handed_5 (fun h5 => ?_) (fun h5 => ?_)
    · refine g_iconst hX dX6_handed_19 ic_m1 ?_
      exact g_iret hX (fun h => h) dX6_handed_20
    · refine g_aload_n hX dX6_handed_8 rfl rfl ?_
      refine g_callV hX (As := []) (fun _ => (some (.ref (ad Z 27 0)))) (fun r => r) (fun _ => mm) (fun _ => lm) (fun r hr => c_X6_presentChoice  hr) mi_X6_presentChoice ml_6_97 p6_0 e6_0 rfl rfl rfl rfl rfl (Nat.le_of_ble_eq_true rfl) dX6_handed_9 ?_
      intro r9 hr9
      refine g_iload_n hX dX6_handed_12 rfl rfl ?_
      refine g_callV hX (As := [.int a1]) (fun r => (some (.int r))) (fun _ => r9) (fun _ => mm) (fun _ => lm) (fun r hr => c_X0_handedTo isCh27 hr) mi_X0_handedTo ml_6_128 (okC isCh27 (by decide)) (e0_0 isCh27) rfl rfl rfl rfl rfl (Nat.le_of_ble_eq_true rfl) dX6_handed_13 ?_
      intro x13 hx13
      refine g_goto hX dX6_handed_16 ?_
      exact g_iret hX (fun h => h) dX6_handed_20
  exact g r h hF

def f_X6_taken (cm : CM) (a1 a2 : Int32) : Option (Int32 × CM) :=
  (f_X6_isKind a1).bind fun x1 =>
  if x1 = 0 then
    some ((-1), cm)
  else
    (f_X6_isWithin a2 8).bind fun x12 =>
    if x12 = 0 then
      some ((-2), cm)
    else
      (f_X6_presentChoice cm).bind fun r19 =>
      (f_X0_takenAt r19 27 a1 a2).bind fun x24 =>
      some (x24, r19)

abbrev rm_X6_taken : Room := { frames := 7, cells := 0, slots := 0, locals := 164 }
set_option maxHeartbeats 2000000 in
set_option maxRecDepth 20000 in
theorem c_X6_taken {Z : ZC} {cm : CM} {mm : MM} {lm : LM} {a1 a2 : Int32} {r : Int32 × CM}  (h : f_X6_taken cm a1 a2 = some r) : Ct Z yX6_taken cX6_taken 3 (some .int) rm_X6_taken [.ref (ad Z 0 0), .int a1, .int a2] cm mm lm (some (.int r.1)) r.2 mm lm := by
  refine Ct_of (own := RX6) [some (.ref (ad Z 0 0)), some (.int a1), some (.int a2)] ⟨by decide, rfl⟩ rfl (Nat.le_of_ble_eq_true rfl) rfl (fun X hX hF => ?_)
  have g : G (fun r : Int32 × CM => Fx Z X (some .int) (some (.int r.1)) r.2 mm lm) (f_X6_taken cm a1 a2) (J Z X 3 cm mm lm 0 [some (.ref (ad Z 0 0)), some (.int a1), some (.int a2)] []) := by
    unfold f_X6_taken
    refine g_iload_n hX dX6_taken_0 rfl rfl ?_
    refine g_callS hX (As := [.int a1]) (fun r => (some (.int r))) (fun _ => cm) (fun _ => mm) (fun _ => lm) (fun r hr => c_X6_isKind  hr) mi_X6_isKind ml_6_60 rfl rfl rfl (Nat.le_of_ble_eq_true rfl) dX6_taken_1 ?_
    intro x1 hx1
    refine g_if_ne hX dX6_taken_4 (fun h4 => ?_) (fun h4 => ?_)
    · refine g_iconst hX dX6_taken_7 ic_m1 ?_
      exact g_iret hX (fun h => h) dX6_taken_8
    · refine g_iload_n hX dX6_taken_9 rfl rfl ?_
      refine g_bipush hX dX6_taken_10 bp_8 ?_
      refine g_callS hX (As := [.int a2, .int 8]) (fun r => (some (.int r))) (fun _ => cm) (fun _ => mm) (fun _ => lm) (fun r hr => c_X6_isWithin  hr) mi_X6_isWithin ml_6_56 rfl rfl rfl (Nat.le_of_ble_eq_true rfl) dX6_taken_12 ?_
      intro x12 hx12
      refine g_if_eq hX dX6_taken_15 (fun h15 => ?_) (fun h15 => ?_)
      · refine g_bipush hX dX6_taken_30 bp_m2 ?_
        exact g_iret hX (fun h => h) dX6_taken_32
      · refine g_aload_n hX dX6_taken_18 rfl rfl ?_
        refine g_callV hX (As := []) (fun _ => (some (.ref (ad Z 27 0)))) (fun r => r) (fun _ => mm) (fun _ => lm) (fun r hr => c_X6_presentChoice  hr) mi_X6_presentChoice ml_6_97 p6_0 e6_0 rfl rfl rfl rfl rfl (Nat.le_of_ble_eq_true rfl) dX6_taken_19 ?_
        intro r19 hr19
        refine g_iload_n hX dX6_taken_22 rfl rfl ?_
        refine g_iload_n hX dX6_taken_23 rfl rfl ?_
        refine g_callV hX (As := [.int a1, .int a2]) (fun r => (some (.int r))) (fun _ => r19) (fun _ => mm) (fun _ => lm) (fun r hr => c_X0_takenAt isCh27 hr) mi_X0_takenAt ml_6_131 (okC isCh27 (by decide)) (e0_0 isCh27) rfl rfl rfl rfl rfl (Nat.le_of_ble_eq_true rfl) dX6_taken_24 ?_
        intro x24 hx24
        refine g_goto hX dX6_taken_27 ?_
        exact g_iret hX (fun h => h) dX6_taken_32
  exact g r h hF

def f_X6_worstMark (cm : CM) (C : Nat) (a2 : Int32) : Option (Int32) :=
  (f_X0_countTaken cm C a2).bind fun x4 =>
  (f_X0_takenAt cm C a2 (x4 - 1)).bind fun x9 =>
  if x9 = (-9) then
    some (-9)
  else
    (f_X3_get cm 1 0 x9).bind fun x30 =>
    some x30

abbrev rm_X6_worstMark : Room := { frames := 3, cells := 0, slots := 0, locals := 68 }
set_option maxHeartbeats 2000000 in
set_option maxRecDepth 20000 in
theorem c_X6_worstMark {Z : ZC} {cm : CM} {mm : MM} {lm : LM} {C : Nat} {a2 : Int32} {r : Int32} (hC : isCh C) (h : f_X6_worstMark cm C a2 = some r) : Ct Z yX6_worstMark cX6_worstMark 4 (some .int) rm_X6_worstMark [.ref (ad Z 0 0), .ref (ad Z C 0), .int a2] cm mm lm (some (.int r)) cm mm lm := by
  refine Ct_of (own := RX6) [some (.ref (ad Z 0 0)), some (.ref (ad Z C 0)), some (.int a2), none] ⟨by decide, rfl⟩ rfl (Nat.le_of_ble_eq_true rfl) rfl (fun X hX hF => ?_)
  have g : G (fun r : Int32 => Fx Z X (some .int) (some (.int r)) cm mm lm) (f_X6_worstMark cm C a2) (J Z X 4 cm mm lm 0 [some (.ref (ad Z 0 0)), some (.ref (ad Z C 0)), some (.int a2), none] []) := by
    unfold f_X6_worstMark
    refine g_aload_n hX dX6_worstMark_0 rfl rfl ?_
    refine g_iload_n hX dX6_worstMark_1 rfl rfl ?_
    refine g_aload_n hX dX6_worstMark_2 rfl rfl ?_
    refine g_iload_n hX dX6_worstMark_3 rfl rfl ?_
    refine g_callV hX (As := [.int a2]) (fun r => (some (.int r))) (fun _ => cm) (fun _ => mm) (fun _ => lm) (fun r hr => c_X0_countTaken hC hr) mi_X0_countTaken ml_6_143 (okC hC (by decide)) (e0_0 hC) rfl rfl rfl rfl rfl (Nat.le_of_ble_eq_true rfl) dX6_worstMark_4 ?_
    intro x4 hx4
    refine g_iconst hX dX6_worstMark_7 ic_1 ?_
    refine g_isub hX dX6_worstMark_8 ?_
    refine g_callV hX (As := [.int a2, .int (x4 - 1)]) (fun r => (some (.int r))) (fun _ => cm) (fun _ => mm) (fun _ => lm) (fun r hr => c_X0_takenAt hC hr) mi_X0_takenAt ml_6_131 (okC hC (by decide)) (e0_0 hC) rfl rfl rfl rfl rfl (Nat.le_of_ble_eq_true rfl) dX6_worstMark_9 ?_
    intro x9 hx9
    refine g_istore_n hX dX6_worstMark_12 rfl (Nat.le_of_ble_eq_true rfl) rfl ?_
    refine g_iload_n hX dX6_worstMark_13 rfl rfl ?_
    refine g_bipush hX dX6_worstMark_14 bp_m9 ?_
    refine g_icmp_ne hX dX6_worstMark_16 (fun h16 => ?_) (fun h16 => ?_)
    · refine g_bipush hX dX6_worstMark_19 bp_m9 ?_
      refine g_goto hX dX6_worstMark_21 ?_
      exact g_iret hX (fun h => h) dX6_worstMark_33
    · refine g_aload_n hX dX6_worstMark_24 rfl rfl ?_
      refine g_get hX fi_6_12 p6_0 e6_0 rfl dX6_worstMark_25 ?_
      refine g_iconst hX dX6_worstMark_28 ic_0 ?_
      refine g_iload_n hX dX6_worstMark_29 rfl rfl ?_
      refine g_callV hX (As := [.int 0, .int x9]) (fun r => (some (.int r))) (fun _ => cm) (fun _ => mm) (fun _ => lm) (fun r hr => c_X3_get isOf1 hr) mi_X3_get ml_6_89 (okO isOf1 (by decide)) (e3_0 isOf1) rfl rfl rfl rfl rfl (Nat.le_of_ble_eq_true rfl) dX6_worstMark_30 ?_
      intro x30 hx30
      exact g_iret hX (fun h => h) dX6_worstMark_33
  exact g r h hF

def f_X6_ofKind (cm : CM) (a1 a2 : Int32) : Option (Int32 × CM) :=
  (f_X6_isKind a1).bind fun x1 =>
  if x1 = 0 then
    some ((-1), cm)
  else
    (f_X6_presentChoice cm).bind fun r10 =>
    (f_X6_isGroup (a2 - 10)).bind fun x18 =>
    if x18 = 0 then
      (f_X6_isGroup (a2 - 20)).bind fun x38 =>
      if x38 = 0 then
        if a2 = 0 then
          (f_X0_freeSeats r10 27 a1).bind fun x94 =>
          some (x94, r10)
        else
        if a2 = 1 then
          (f_X0_countTaken r10 27 a1).bind fun x100 =>
          some (x100, r10)
        else
        if a2 = 2 then
          (f_X0_countCountedIn r10 27 a1).bind fun x106 =>
          some (x106, r10)
        else
        if a2 = 3 then
          (f_X0_freeSeats r10 27 a1).bind fun x112 =>
          (f_X0_countSeated r10 27 a1).bind fun x117 =>
          some (x112 - x117, r10)
        else
        if a2 = 4 then
          (f_X6_worstMark r10 27 a1).bind fun x125 =>
          some (x125, r10)
        else
        if a2 = 5 then
          (f_X0_fillOf r10 27 1 a1).bind fun r135 =>
          some (r135.1, r135.2)
        else
        some ((-2), r10)
      else
        (f_X0_countTo r10 27 a1 (a2 - 20)).bind fun x50 =>
        some (x50, r10)
    else
      (f_X0_freeReserved r10 27 a1 (a2 - 10)).bind fun x30 =>
      some (x30, r10)

abbrev rm_X6_ofKind : Room := { frames := 7, cells := 0, slots := 0, locals := 164 }
set_option maxHeartbeats 2000000 in
set_option maxRecDepth 20000 in
theorem c_X6_ofKind {Z : ZC} {cm : CM} {mm : MM} {lm : LM} {a1 a2 : Int32} {r : Int32 × CM}  (h : f_X6_ofKind cm a1 a2 = some r) : Ct Z yX6_ofKind cX6_ofKind 4 (some .int) rm_X6_ofKind [.ref (ad Z 0 0), .int a1, .int a2] cm mm lm (some (.int r.1)) r.2 mm lm := by
  refine Ct_of (own := RX6) [some (.ref (ad Z 0 0)), some (.int a1), some (.int a2), none] ⟨by decide, rfl⟩ rfl (Nat.le_of_ble_eq_true rfl) rfl (fun X hX hF => ?_)
  have g : G (fun r : Int32 × CM => Fx Z X (some .int) (some (.int r.1)) r.2 mm lm) (f_X6_ofKind cm a1 a2) (J Z X 4 cm mm lm 0 [some (.ref (ad Z 0 0)), some (.int a1), some (.int a2), none] []) := by
    unfold f_X6_ofKind
    refine g_iload_n hX dX6_ofKind_0 rfl rfl ?_
    refine g_callS hX (As := [.int a1]) (fun r => (some (.int r))) (fun _ => cm) (fun _ => mm) (fun _ => lm) (fun r hr => c_X6_isKind  hr) mi_X6_isKind ml_6_60 rfl rfl rfl (Nat.le_of_ble_eq_true rfl) dX6_ofKind_1 ?_
    intro x1 hx1
    refine g_if_ne hX dX6_ofKind_4 (fun h4 => ?_) (fun h4 => ?_)
    · refine g_iconst hX dX6_ofKind_7 ic_m1 ?_
      exact g_iret hX (fun h => h) dX6_ofKind_8
    · refine g_aload_n hX dX6_ofKind_9 rfl rfl ?_
      refine g_callV hX (As := []) (fun _ => (some (.ref (ad Z 27 0)))) (fun r => r) (fun _ => mm) (fun _ => lm) (fun r hr => c_X6_presentChoice  hr) mi_X6_presentChoice ml_6_97 p6_0 e6_0 rfl rfl rfl rfl rfl (Nat.le_of_ble_eq_true rfl) dX6_ofKind_10 ?_
      intro r10 hr10
      refine g_astore_n hX dX6_ofKind_13 rfl (Nat.le_of_ble_eq_true rfl) rfl ?_
      refine g_iload_n hX dX6_ofKind_14 rfl rfl ?_
      refine g_bipush hX dX6_ofKind_15 bp_10 ?_
      refine g_isub hX dX6_ofKind_17 ?_
      refine g_callS hX (As := [.int (a2 - 10)]) (fun r => (some (.int r))) (fun _ => r10) (fun _ => mm) (fun _ => lm) (fun r hr => c_X6_isGroup  hr) mi_X6_isGroup ml_6_111 rfl rfl rfl (Nat.le_of_ble_eq_true rfl) dX6_ofKind_18 ?_
      intro x18 hx18
      refine g_if_eq hX dX6_ofKind_21 (fun h21 => ?_) (fun h21 => ?_)
      · refine g_iload_n hX dX6_ofKind_34 rfl rfl ?_
        refine g_bipush hX dX6_ofKind_35 bp_20 ?_
        refine g_isub hX dX6_ofKind_37 ?_
        refine g_callS hX (As := [.int (a2 - 20)]) (fun r => (some (.int r))) (fun _ => r10) (fun _ => mm) (fun _ => lm) (fun r hr => c_X6_isGroup  hr) mi_X6_isGroup ml_6_111 rfl rfl rfl (Nat.le_of_ble_eq_true rfl) dX6_ofKind_38 ?_
        intro x38 hx38
        refine g_if_eq hX dX6_ofKind_41 (fun h41 => ?_) (fun h41 => ?_)
        · refine g_iload_n hX dX6_ofKind_54 rfl rfl ?_
          refine g_tsw hX dX6_ofKind_55 0 (by decide) (by decide) rfl rfl (fun h55_0 => ?_) (fun h55_0 => ?_)
          · refine g_aload_n hX dX6_ofKind_92 rfl rfl ?_
            refine g_iload_n hX dX6_ofKind_93 rfl rfl ?_
            refine g_callV hX (As := [.int a1]) (fun r => (some (.int r))) (fun _ => r10) (fun _ => mm) (fun _ => lm) (fun r hr => c_X0_freeSeats isCh27 hr) mi_X0_freeSeats ml_6_140 (okC isCh27 (by decide)) (e0_0 isCh27) rfl rfl rfl rfl rfl (Nat.le_of_ble_eq_true rfl) dX6_ofKind_94 ?_
            intro x94 hx94
            exact g_iret hX (fun h => h) dX6_ofKind_97
          refine g_tsw hX dX6_ofKind_55 1 (by decide) (by decide) rfl rfl (fun h55_1 => ?_) (fun h55_1 => ?_)
          · refine g_aload_n hX dX6_ofKind_98 rfl rfl ?_
            refine g_iload_n hX dX6_ofKind_99 rfl rfl ?_
            refine g_callV hX (As := [.int a1]) (fun r => (some (.int r))) (fun _ => r10) (fun _ => mm) (fun _ => lm) (fun r hr => c_X0_countTaken isCh27 hr) mi_X0_countTaken ml_6_143 (okC isCh27 (by decide)) (e0_0 isCh27) rfl rfl rfl rfl rfl (Nat.le_of_ble_eq_true rfl) dX6_ofKind_100 ?_
            intro x100 hx100
            exact g_iret hX (fun h => h) dX6_ofKind_103
          refine g_tsw hX dX6_ofKind_55 2 (by decide) (by decide) rfl rfl (fun h55_2 => ?_) (fun h55_2 => ?_)
          · refine g_aload_n hX dX6_ofKind_104 rfl rfl ?_
            refine g_iload_n hX dX6_ofKind_105 rfl rfl ?_
            refine g_callV hX (As := [.int a1]) (fun r => (some (.int r))) (fun _ => r10) (fun _ => mm) (fun _ => lm) (fun r hr => c_X0_countCountedIn isCh27 hr) mi_X0_countCountedIn ml_6_146 (okC isCh27 (by decide)) (e0_0 isCh27) rfl rfl rfl rfl rfl (Nat.le_of_ble_eq_true rfl) dX6_ofKind_106 ?_
            intro x106 hx106
            exact g_iret hX (fun h => h) dX6_ofKind_109
          refine g_tsw hX dX6_ofKind_55 3 (by decide) (by decide) rfl rfl (fun h55_3 => ?_) (fun h55_3 => ?_)
          · refine g_aload_n hX dX6_ofKind_110 rfl rfl ?_
            refine g_iload_n hX dX6_ofKind_111 rfl rfl ?_
            refine g_callV hX (As := [.int a1]) (fun r => (some (.int r))) (fun _ => r10) (fun _ => mm) (fun _ => lm) (fun r hr => c_X0_freeSeats isCh27 hr) mi_X0_freeSeats ml_6_140 (okC isCh27 (by decide)) (e0_0 isCh27) rfl rfl rfl rfl rfl (Nat.le_of_ble_eq_true rfl) dX6_ofKind_112 ?_
            intro x112 hx112
            refine g_aload_n hX dX6_ofKind_115 rfl rfl ?_
            refine g_iload_n hX dX6_ofKind_116 rfl rfl ?_
            refine g_callV hX (As := [.int a1]) (fun r => (some (.int r))) (fun _ => r10) (fun _ => mm) (fun _ => lm) (fun r hr => c_X0_countSeated isCh27 hr) mi_X0_countSeated ml_6_149 (okC isCh27 (by decide)) (e0_0 isCh27) rfl rfl rfl rfl rfl (Nat.le_of_ble_eq_true rfl) dX6_ofKind_117 ?_
            intro x117 hx117
            refine g_isub hX dX6_ofKind_120 ?_
            exact g_iret hX (fun h => h) dX6_ofKind_121
          refine g_tsw hX dX6_ofKind_55 4 (by decide) (by decide) rfl rfl (fun h55_4 => ?_) (fun h55_4 => ?_)
          · refine g_aload_n hX dX6_ofKind_122 rfl rfl ?_
            refine g_aload_n hX dX6_ofKind_123 rfl rfl ?_
            refine g_iload_n hX dX6_ofKind_124 rfl rfl ?_
            refine g_callV hX (As := [.ref (ad Z 27 0), .int a1]) (fun r => (some (.int r))) (fun _ => r10) (fun _ => mm) (fun _ => lm) (fun r hr => c_X6_worstMark isCh27 hr) mi_X6_worstMark ml_6_152 p6_0 e6_0 rfl rfl rfl rfl rfl (Nat.le_of_ble_eq_true rfl) dX6_ofKind_125 ?_
            intro x125 hx125
            exact g_iret hX (fun h => h) dX6_ofKind_128
          refine g_tsw hX dX6_ofKind_55 5 (by decide) (by decide) rfl rfl (fun h55_5 => ?_) (fun h55_5 => ?_)
          · refine g_aload_n hX dX6_ofKind_129 rfl rfl ?_
            refine g_aload_n hX dX6_ofKind_130 rfl rfl ?_
            refine g_get hX fi_6_12 p6_0 e6_0 rfl dX6_ofKind_131 ?_
            refine g_iload_n hX dX6_ofKind_134 rfl rfl ?_
            refine g_callV hX (As := [.ref (ad Z 1 0), .int a1]) (fun r => (some (.int r.1))) (fun r => r.2) (fun _ => mm) (fun _ => lm) (fun r hr => c_X0_fillOf isCh27 isOf1 hr) mi_X0_fillOf ml_6_156 (okC isCh27 (by decide)) (e0_0 isCh27) rfl rfl rfl rfl rfl (Nat.le_of_ble_eq_true rfl) dX6_ofKind_135 ?_
            intro r135 hr135
            exact g_iret hX (fun h => h) dX6_ofKind_138
          refine g_tsd hX dX6_ofKind_55 (sw_out (n := 6) (fun k hk => match k, hk with | 0, _ => h55_0 | 1, _ => h55_1 | 2, _ => h55_2 | 3, _ => h55_3 | 4, _ => h55_4 | 5, _ => h55_5)) rfl ?_
          refine g_bipush hX dX6_ofKind_139 bp_m2 ?_
          exact g_iret hX (fun h => h) dX6_ofKind_141
        · refine g_aload_n hX dX6_ofKind_44 rfl rfl ?_
          refine g_iload_n hX dX6_ofKind_45 rfl rfl ?_
          refine g_iload_n hX dX6_ofKind_46 rfl rfl ?_
          refine g_bipush hX dX6_ofKind_47 bp_20 ?_
          refine g_isub hX dX6_ofKind_49 ?_
          refine g_callV hX (As := [.int a1, .int (a2 - 20)]) (fun r => (some (.int r))) (fun _ => r10) (fun _ => mm) (fun _ => lm) (fun r hr => c_X0_countTo isCh27 hr) mi_X0_countTo ml_6_137 (okC isCh27 (by decide)) (e0_0 isCh27) rfl rfl rfl rfl rfl (Nat.le_of_ble_eq_true rfl) dX6_ofKind_50 ?_
          intro x50 hx50
          exact g_iret hX (fun h => h) dX6_ofKind_53
      · refine g_aload_n hX dX6_ofKind_24 rfl rfl ?_
        refine g_iload_n hX dX6_ofKind_25 rfl rfl ?_
        refine g_iload_n hX dX6_ofKind_26 rfl rfl ?_
        refine g_bipush hX dX6_ofKind_27 bp_10 ?_
        refine g_isub hX dX6_ofKind_29 ?_
        refine g_callV hX (As := [.int a1, .int (a2 - 10)]) (fun r => (some (.int r))) (fun _ => r10) (fun _ => mm) (fun _ => lm) (fun r hr => c_X0_freeReserved isCh27 hr) mi_X0_freeReserved ml_6_134 (okC isCh27 (by decide)) (e0_0 isCh27) rfl rfl rfl rfl rfl (Nat.le_of_ble_eq_true rfl) dX6_ofKind_30 ?_
        intro x30 hx30
        exact g_iret hX (fun h => h) dX6_ofKind_33
  exact g r h hF

def f_X6_ways (cm : CM) (a1 : Int32) : Option (Int64 × CM) :=
  (f_X6_isKind a1).bind fun x1 =>
  if x1 = 0 then
    some ((-1 : Int64), cm)
  else
    (f_X6_presentChoice cm).bind fun r16 =>
    (f_X1_count r16 1 27 a1).bind fun r20 =>
    some (r20.1, r20.2)

abbrev rm_X6_ways : Room := { frames := 7, cells := 0, slots := 0, locals := 164 }
set_option maxHeartbeats 2000000 in
set_option maxRecDepth 20000 in
theorem c_X6_ways {Z : ZC} {cm : CM} {mm : MM} {lm : LM} {a1 : Int32} {r : Int64 × CM}  (h : f_X6_ways cm a1 = some r) : Ct Z yX6_ways cX6_ways 2 (some .long) rm_X6_ways [.ref (ad Z 0 0), .int a1] cm mm lm (some (.long r.1)) r.2 mm lm := by
  refine Ct_of (own := RX6) [some (.ref (ad Z 0 0)), some (.int a1)] ⟨by decide, rfl⟩ rfl (Nat.le_of_ble_eq_true rfl) rfl (fun X hX hF => ?_)
  have g : G (fun r : Int64 × CM => Fx Z X (some .long) (some (.long r.1)) r.2 mm lm) (f_X6_ways cm a1) (J Z X 2 cm mm lm 0 [some (.ref (ad Z 0 0)), some (.int a1)] []) := by
    unfold f_X6_ways
    refine g_iload_n hX dX6_ways_0 rfl rfl ?_
    refine g_callS hX (As := [.int a1]) (fun r => (some (.int r))) (fun _ => cm) (fun _ => mm) (fun _ => lm) (fun r hr => c_X6_isKind  hr) mi_X6_isKind ml_6_60 rfl rfl rfl (Nat.le_of_ble_eq_true rfl) dX6_ways_1 ?_
    intro x1 hx1
    refine g_if_eq hX dX6_ways_4 (fun h4 => ?_) (fun h4 => ?_)
    · refine g_ldc2 hX dX6_ways_26 kl_164 ?_
      exact g_lret hX (fun h => h) dX6_ways_29
    · refine g_aload_n hX dX6_ways_7 rfl rfl ?_
      refine g_get hX fi_6_39 p6_0 e6_0 rfl dX6_ways_8 ?_
      refine g_aload_n hX dX6_ways_11 rfl rfl ?_
      refine g_get hX fi_6_12 p6_0 e6_0 rfl dX6_ways_12 ?_
      refine g_aload_n hX dX6_ways_15 rfl rfl ?_
      refine g_callV hX (As := []) (fun _ => (some (.ref (ad Z 27 0)))) (fun r => r) (fun _ => mm) (fun _ => lm) (fun r hr => c_X6_presentChoice  hr) mi_X6_presentChoice ml_6_97 p6_0 e6_0 rfl rfl rfl rfl rfl (Nat.le_of_ble_eq_true rfl) dX6_ways_16 ?_
      intro r16 hr16
      refine g_iload_n hX dX6_ways_19 rfl rfl ?_
      refine g_callV hX (As := [.ref (ad Z 1 0), .ref (ad Z 27 0), .int a1]) (fun r => (some (.long r.1))) (fun r => r.2) (fun _ => mm) (fun _ => lm) (fun r hr => c_X1_count isOf1 isCh27 hr) mi_X1_count ml_6_160 p1_0 e1_0 rfl rfl rfl rfl rfl (Nat.le_of_ble_eq_true rfl) dX6_ways_20 ?_
      intro r20 hr20
      refine g_goto hX dX6_ways_23 ?_
      exact g_lret hX (fun h => h) dX6_ways_29
  exact g r h hF

def f_X6_sumOfMarks_B4 (cm : CM) (a1 : Int32) (s4_2 : Int32) (s4_3 : Int32) : Option ((Int32 × Int32) ⊕ (Int32 × Int32)) :=
  (f_X3_people cm 1).bind fun x9 =>
  if x9 ≤ s4_3 then
    some (.inl (s4_2, s4_3))
  else
    if ((a1 >>> (s4_3 &&& 31)) &&& 1) = 1 then
      (f_X3_get cm 1 0 s4_3).bind fun x31 =>
      some (.inr (s4_2 + x31, s4_3 + 1))
    else
      some (.inr (s4_2, s4_3 + 1))

def f_X6_sumOfMarks (cm : CM) (a1 : Int32) : Option (Int32) :=
  (itr (fun s : Int32 × Int32 => f_X6_sumOfMarks_B4 cm a1 s.1 s.2) 2000 (0, 0)).bind fun (s4_2, s4_3) =>
  some s4_2

abbrev rm_X6_sumOfMarks : Room := { frames := 2, cells := 0, slots := 0, locals := 43 }
set_option maxHeartbeats 2000000 in
set_option maxRecDepth 20000 in
theorem c_X6_sumOfMarks {Z : ZC} {cm : CM} {mm : MM} {lm : LM} {a1 : Int32} {r : Int32}  (h : f_X6_sumOfMarks cm a1 = some r) : Ct Z yX6_sumOfMarks cX6_sumOfMarks 4 (some .int) rm_X6_sumOfMarks [.ref (ad Z 0 0), .int a1] cm mm lm (some (.int r)) cm mm lm := by
  refine Ct_of (own := RX6) [some (.ref (ad Z 0 0)), some (.int a1), none, none] ⟨by decide, rfl⟩ rfl (Nat.le_of_ble_eq_true rfl) rfl (fun X hX hF => ?_)
  have g : G (fun r : Int32 => Fx Z X (some .int) (some (.int r)) cm mm lm) (f_X6_sumOfMarks cm a1) (J Z X 4 cm mm lm 0 [some (.ref (ad Z 0 0)), some (.int a1), none, none] []) := by
    unfold f_X6_sumOfMarks
    refine g_iconst hX dX6_sumOfMarks_0 ic_0 ?_
    refine g_istore_n hX dX6_sumOfMarks_1 rfl (Nat.le_of_ble_eq_true rfl) rfl ?_
    refine g_iconst hX dX6_sumOfMarks_2 ic_0 ?_
    refine g_istore_n hX dX6_sumOfMarks_3 rfl (Nat.le_of_ble_eq_true rfl) rfl ?_
    refine g_loop (Hd := fun s : Int32 × Int32 => J Z X 4 cm mm lm 4 [some (.ref (ad Z 0 0)), some (.int a1), some (.int s.1), some (.int s.2)] []) (Ex := fun s : Int32 × Int32 => J Z X 4 cm mm lm 42 [some (.ref (ad Z 0 0)), some (.int a1), some (.int s.1), some (.int s.2)] []) ?_ ?_
    · rintro ⟨s4_2, s4_3⟩
      show G _ (f_X6_sumOfMarks_B4 cm a1 s4_2 s4_3) (J Z X 4 cm mm lm 4 [some (.ref (ad Z 0 0)), some (.int a1), some (.int s4_2), some (.int s4_3)] [])
      unfold f_X6_sumOfMarks_B4
      refine g_iload_n hX dX6_sumOfMarks_4 rfl rfl ?_
      refine g_aload_n hX dX6_sumOfMarks_5 rfl rfl ?_
      refine g_get hX fi_6_12 p6_0 e6_0 rfl dX6_sumOfMarks_6 ?_
      refine g_callV hX (As := []) (fun r => (some (.int r))) (fun _ => cm) (fun _ => mm) (fun _ => lm) (fun r hr => c_X3_people isOf1 hr) mi_X3_people ml_6_67 (okO isOf1 (by decide)) (e3_0 isOf1) rfl rfl rfl rfl rfl (Nat.le_of_ble_eq_true rfl) dX6_sumOfMarks_9 ?_
      intro x9 hx9
      refine g_icmp_ge hX dX6_sumOfMarks_12 (fun h12 => ?_) (fun h12 => ?_)
      · exact g_wk (lv0 := [some (.ref (ad Z 0 0)), some (.int a1), some (.int s4_2), some (.int s4_3)]) ⟨rfl, rfl, rfl, rfl, trivial⟩ (g_end (fun h => h))
      · refine g_iload_n hX dX6_sumOfMarks_15 rfl rfl ?_
        refine g_iload_n hX dX6_sumOfMarks_16 rfl rfl ?_
        refine g_ishr hX dX6_sumOfMarks_17 ?_
        refine g_iconst hX dX6_sumOfMarks_18 ic_1 ?_
        refine g_iand hX dX6_sumOfMarks_19 ?_
        refine g_iconst hX dX6_sumOfMarks_20 ic_1 ?_
        refine g_icmp_ne hX dX6_sumOfMarks_21 (fun h21 => ?_) (fun h21 => ?_)
        · refine g_iload_n hX dX6_sumOfMarks_24 rfl rfl ?_
          refine g_aload_n hX dX6_sumOfMarks_25 rfl rfl ?_
          refine g_get hX fi_6_12 p6_0 e6_0 rfl dX6_sumOfMarks_26 ?_
          refine g_iconst hX dX6_sumOfMarks_29 ic_0 ?_
          refine g_iload_n hX dX6_sumOfMarks_30 rfl rfl ?_
          refine g_callV hX (As := [.int 0, .int s4_3]) (fun r => (some (.int r))) (fun _ => cm) (fun _ => mm) (fun _ => lm) (fun r hr => c_X3_get isOf1 hr) mi_X3_get ml_6_89 (okO isOf1 (by decide)) (e3_0 isOf1) rfl rfl rfl rfl rfl (Nat.le_of_ble_eq_true rfl) dX6_sumOfMarks_31 ?_
          intro x31 hx31
          refine g_iadd hX dX6_sumOfMarks_34 ?_
          refine g_istore_n hX dX6_sumOfMarks_35 rfl (Nat.le_of_ble_eq_true rfl) rfl ?_
          refine g_iinc hX dX6_sumOfMarks_36 ic_1 rfl (Nat.le_of_ble_eq_true rfl) rfl ?_
          refine g_goto hX dX6_sumOfMarks_39 ?_
          exact g_wk (lv0 := [some (.ref (ad Z 0 0)), some (.int a1), some (.int (s4_2 + x31)), some (.int (s4_3 + 1))]) ⟨rfl, rfl, rfl, rfl, trivial⟩ (g_end (fun h => h))
        · refine g_iinc hX dX6_sumOfMarks_36 ic_1 rfl (Nat.le_of_ble_eq_true rfl) rfl ?_
          refine g_goto hX dX6_sumOfMarks_39 ?_
          exact g_wk (lv0 := [some (.ref (ad Z 0 0)), some (.int a1), some (.int s4_2), some (.int (s4_3 + 1))]) ⟨rfl, rfl, rfl, rfl, trivial⟩ (g_end (fun h => h))
    · rintro ⟨s4_2, s4_3⟩
      show G _ _ (J Z X 4 cm mm lm 42 [some (.ref (ad Z 0 0)), some (.int a1), some (.int s4_2), some (.int s4_3)] [])
      refine g_iload_n hX dX6_sumOfMarks_42 rfl rfl ?_
      exact g_iret hX (fun h => h) dX6_sumOfMarks_43
  exact g r h hF

def f_X6_by (cm : CM) (a1 a2 : Int32) : Option (Int32 × CM) :=
  (f_X6_isWithin a1 2).bind fun x2 =>
  if x2 = 0 then
    some ((-2), cm)
  else
    (f_X6_isWithin a2 3).bind fun x10 =>
    if x10 = 0 then
      some ((-2), cm)
    else
      (f_X3_copyFrom cm 28 1).bind fun r27 =>
      (f_X3_set r27 28 156 0 a1).bind fun r39 =>
      (f_X0_make r39 29 28).bind fun r50 =>
      if a2 = 0 then
        (f_X0_members r50 29).bind fun x84 =>
        some (x84, r50)
      else
      if a2 = 1 then
        (f_X0_members r50 29).bind fun x92 =>
        (f_J6_bitCount_0f7a4 x92).bind fun x95 =>
        some (x95, r50)
      else
      if a2 = 2 then
        (f_X0_members r50 29).bind fun x104 =>
        (f_X6_sumOfMarks r50 x104).bind fun x107 =>
        some (x107, r50)
      else
      (f_X0_assignGroups r50 29 28).bind fun r119 =>
      (f_X0_countCounted r119 29).bind fun x126 =>
      some (x126, r119)

abbrev rm_X6_by : Room := { frames := 6, cells := 0, slots := 0, locals := 144 }
set_option maxHeartbeats 2000000 in
set_option maxRecDepth 20000 in
theorem c_X6_by {Z : ZC} {cm : CM} {mm : MM} {lm : LM} {a1 a2 : Int32} {r : Int32 × CM}  (h : f_X6_by cm a1 a2 = some r) : Ct Z yX6_by cX6_by 3 (some .int) rm_X6_by [.ref (ad Z 0 0), .int a1, .int a2] cm mm lm (some (.int r.1)) r.2 mm lm := by
  refine Ct_of (own := RX6) [some (.ref (ad Z 0 0)), some (.int a1), some (.int a2)] ⟨by decide, rfl⟩ rfl (Nat.le_of_ble_eq_true rfl) rfl (fun X hX hF => ?_)
  have g : G (fun r : Int32 × CM => Fx Z X (some .int) (some (.int r.1)) r.2 mm lm) (f_X6_by cm a1 a2) (J Z X 3 cm mm lm 0 [some (.ref (ad Z 0 0)), some (.int a1), some (.int a2)] []) := by
    unfold f_X6_by
    refine g_iload_n hX dX6_by_0 rfl rfl ?_
    refine g_iconst hX dX6_by_1 ic_2 ?_
    refine g_callS hX (As := [.int a1, .int 2]) (fun r => (some (.int r))) (fun _ => cm) (fun _ => mm) (fun _ => lm) (fun r hr => c_X6_isWithin  hr) mi_X6_isWithin ml_6_56 rfl rfl rfl (Nat.le_of_ble_eq_true rfl) dX6_by_2 ?_
    intro x2 hx2
    refine g_if_eq hX dX6_by_5 (fun h5 => ?_) (fun h5 => ?_)
    · refine g_bipush hX dX6_by_16 bp_m2 ?_
      exact g_iret hX (fun h => h) dX6_by_18
    · refine g_iload_n hX dX6_by_8 rfl rfl ?_
      refine g_iconst hX dX6_by_9 ic_3 ?_
      refine g_callS hX (As := [.int a2, .int 3]) (fun r => (some (.int r))) (fun _ => cm) (fun _ => mm) (fun _ => lm) (fun r hr => c_X6_isWithin  hr) mi_X6_isWithin ml_6_56 rfl rfl rfl (Nat.le_of_ble_eq_true rfl) dX6_by_10 ?_
      intro x10 hx10
      refine g_if_ne hX dX6_by_13 (fun h13 => ?_) (fun h13 => ?_)
      · refine g_bipush hX dX6_by_16 bp_m2 ?_
        exact g_iret hX (fun h => h) dX6_by_18
      · refine g_aload_n hX dX6_by_19 rfl rfl ?_
        refine g_get hX fi_6_30 p6_0 e6_0 rfl dX6_by_20 ?_
        refine g_aload_n hX dX6_by_23 rfl rfl ?_
        refine g_get hX fi_6_12 p6_0 e6_0 rfl dX6_by_24 ?_
        refine g_callV hX (As := [.ref (ad Z 1 0)]) (fun _ => none) (fun r => r) (fun _ => mm) (fun _ => lm) (fun r hr => c_X3_copyFrom isOf28 isOf1 hr) mi_X3_copyFrom ml_6_166 (okO isOf28 (by decide)) (e3_0 isOf28) rfl rfl rfl rfl rfl (Nat.le_of_ble_eq_true rfl) dX6_by_27 ?_
        intro r27 hr27
        refine g_aload_n hX dX6_by_30 rfl rfl ?_
        refine g_get hX fi_6_30 p6_0 e6_0 rfl dX6_by_31 ?_
        refine g_sipush hX dX6_by_34 sp_156 ?_
        refine g_iconst hX dX6_by_37 ic_0 ?_
        refine g_iload_n hX dX6_by_38 rfl rfl ?_
        refine g_callV hX (As := [.int 156, .int 0, .int a1]) (fun _ => none) (fun r => r) (fun _ => mm) (fun _ => lm) (fun r hr => c_X3_set isOf28 hr) mi_X3_set ml_6_74 (okO isOf28 (by decide)) (e3_0 isOf28) rfl rfl rfl rfl rfl (Nat.le_of_ble_eq_true rfl) dX6_by_39 ?_
        intro r39 hr39
        refine g_aload_n hX dX6_by_42 rfl rfl ?_
        refine g_get hX fi_6_33 p6_0 e6_0 rfl dX6_by_43 ?_
        refine g_aload_n hX dX6_by_46 rfl rfl ?_
        refine g_get hX fi_6_30 p6_0 e6_0 rfl dX6_by_47 ?_
        refine g_callV hX (As := [.ref (ad Z 28 0)]) (fun _ => none) (fun r => r) (fun _ => mm) (fun _ => lm) (fun r hr => c_X0_make isCh29 isOf28 hr) mi_X0_make ml_6_170 (okC isCh29 (by decide)) (e0_0 isCh29) rfl rfl rfl rfl rfl (Nat.le_of_ble_eq_true rfl) dX6_by_50 ?_
        intro r50 hr50
        refine g_iload_n hX dX6_by_53 rfl rfl ?_
        refine g_tsw hX dX6_by_54 0 (by decide) (by decide) rfl rfl (fun h54_0 => ?_) (fun h54_0 => ?_)
        · refine g_aload_n hX dX6_by_80 rfl rfl ?_
          refine g_get hX fi_6_33 p6_0 e6_0 rfl dX6_by_81 ?_
          refine g_callV hX (As := []) (fun r => (some (.int r))) (fun _ => r50) (fun _ => mm) (fun _ => lm) (fun r hr => c_X0_members isCh29 hr) mi_X0_members ml_6_173 (okC isCh29 (by decide)) (e0_0 isCh29) rfl rfl rfl rfl rfl (Nat.le_of_ble_eq_true rfl) dX6_by_84 ?_
          intro x84 hx84
          exact g_iret hX (fun h => h) dX6_by_87
        refine g_tsw hX dX6_by_54 1 (by decide) (by decide) rfl rfl (fun h54_1 => ?_) (fun h54_1 => ?_)
        · refine g_aload_n hX dX6_by_88 rfl rfl ?_
          refine g_get hX fi_6_33 p6_0 e6_0 rfl dX6_by_89 ?_
          refine g_callV hX (As := []) (fun r => (some (.int r))) (fun _ => r50) (fun _ => mm) (fun _ => lm) (fun r hr => c_X0_members isCh29 hr) mi_X0_members ml_6_173 (okC isCh29 (by decide)) (e0_0 isCh29) rfl rfl rfl rfl rfl (Nat.le_of_ble_eq_true rfl) dX6_by_92 ?_
          intro x92 hx92
          refine g_callS hX (As := [.int x92]) (fun r => (some (.int r))) (fun _ => r50) (fun _ => mm) (fun _ => lm) (fun r hr => c_J6_bitCount_0f7a4  hr) mi_J6_bitCount_0f7a4 ml_6_176 rfl rfl rfl (Nat.le_of_ble_eq_true rfl) dX6_by_95 ?_
          intro x95 hx95
          exact g_iret hX (fun h => h) dX6_by_98
        refine g_tsw hX dX6_by_54 2 (by decide) (by decide) rfl rfl (fun h54_2 => ?_) (fun h54_2 => ?_)
        · refine g_aload_n hX dX6_by_99 rfl rfl ?_
          refine g_aload_n hX dX6_by_100 rfl rfl ?_
          refine g_get hX fi_6_33 p6_0 e6_0 rfl dX6_by_101 ?_
          refine g_callV hX (As := []) (fun r => (some (.int r))) (fun _ => r50) (fun _ => mm) (fun _ => lm) (fun r hr => c_X0_members isCh29 hr) mi_X0_members ml_6_173 (okC isCh29 (by decide)) (e0_0 isCh29) rfl rfl rfl rfl rfl (Nat.le_of_ble_eq_true rfl) dX6_by_104 ?_
          intro x104 hx104
          refine g_callV hX (As := [.int x104]) (fun r => (some (.int r))) (fun _ => r50) (fun _ => mm) (fun _ => lm) (fun r hr => c_X6_sumOfMarks  hr) mi_X6_sumOfMarks ml_6_181 p6_0 e6_0 rfl rfl rfl rfl rfl (Nat.le_of_ble_eq_true rfl) dX6_by_107 ?_
          intro x107 hx107
          exact g_iret hX (fun h => h) dX6_by_110
        refine g_tsd hX dX6_by_54 (sw_out (n := 3) (fun k hk => match k, hk with | 0, _ => h54_0 | 1, _ => h54_1 | 2, _ => h54_2)) rfl ?_
        refine g_aload_n hX dX6_by_111 rfl rfl ?_
        refine g_get hX fi_6_33 p6_0 e6_0 rfl dX6_by_112 ?_
        refine g_aload_n hX dX6_by_115 rfl rfl ?_
        refine g_get hX fi_6_30 p6_0 e6_0 rfl dX6_by_116 ?_
        refine g_callV hX (As := [.ref (ad Z 28 0)]) (fun _ => none) (fun r => r) (fun _ => mm) (fun _ => lm) (fun r hr => c_X0_assignGroups isCh29 isOf28 hr) mi_X0_assignGroups ml_6_184 (okC isCh29 (by decide)) (e0_0 isCh29) rfl rfl rfl rfl rfl (Nat.le_of_ble_eq_true rfl) dX6_by_119 ?_
        intro r119 hr119
        refine g_aload_n hX dX6_by_122 rfl rfl ?_
        refine g_get hX fi_6_33 p6_0 e6_0 rfl dX6_by_123 ?_
        refine g_callV hX (As := []) (fun r => (some (.int r))) (fun _ => r119) (fun _ => mm) (fun _ => lm) (fun r hr => c_X0_countCounted isCh29 hr) mi_X0_countCounted ml_6_187 (okC isCh29 (by decide)) (e0_0 isCh29) rfl rfl rfl rfl rfl (Nat.le_of_ble_eq_true rfl) dX6_by_126 ?_
        intro x126 hx126
        exact g_iret hX (fun h => h) dX6_by_129
  exact g r h hF

def f_X6_sure_B30 (s30_2 : Int32) (s30_3 : Int32) (s30_4 : Int32) (c30_ : CM) : Option ((Int32 × Int32 × Int32 × CM) ⊕ (Int32 × Int32 × Int32 × CM)) :=
  if 256 ≤ s30_4 then
    some (.inl (s30_2, s30_3, s30_4, c30_))
  else
    (f_X6_isOrder (s30_4 >>> (6 &&& 31)) ((s30_4 >>> (4 &&& 31)) &&& 3) ((s30_4 >>> (2 &&& 31)) &&& 3) (s30_4 &&& 3)).bind fun x75 =>
    if x75 = 0 then
      some (.inr (s30_2, s30_3, s30_4 + 1, c30_))
    else
      (f_X3_setOrder c30_ 28 (s30_4 >>> (6 &&& 31)) ((s30_4 >>> (4 &&& 31)) &&& 3) ((s30_4 >>> (2 &&& 31)) &&& 3) (s30_4 &&& 3)).bind fun r93 =>
      (f_X0_make r93 29 28).bind fun r104 =>
      (f_X0_members r104 29).bind fun x112 =>
      (f_X0_members r104 29).bind fun x122 =>
      some (.inr (s30_2 &&& x112, s30_3 ||| x122, s30_4 + 1, r104))

def f_X6_sure (cm : CM) (a1 : Int32) : Option (Int32 × CM) :=
  (f_X6_isWithin a1 1).bind fun x2 =>
  if x2 = 0 then
    some ((-2), cm)
  else
    (f_X3_copyFrom cm 28 1).bind fun r24 =>
    (itr (fun s : Int32 × Int32 × Int32 × CM => f_X6_sure_B30 s.1 s.2.1 s.2.2.1 s.2.2.2) 2000 (65535, 0, 0, r24)).bind fun (s30_2, s30_3, s30_4, c30_) =>
    if a1 = 0 then
      some (s30_2, c30_)
    else
      some (s30_3, c30_)

abbrev rm_X6_sure : Room := { frames := 6, cells := 0, slots := 0, locals := 144 }
set_option maxHeartbeats 2000000 in
set_option maxRecDepth 20000 in
theorem c_X6_sure {Z : ZC} {cm : CM} {mm : MM} {lm : LM} {a1 : Int32} {r : Int32 × CM}  (h : f_X6_sure cm a1 = some r) : Ct Z yX6_sure cX6_sure 9 (some .int) rm_X6_sure [.ref (ad Z 0 0), .int a1] cm mm lm (some (.int r.1)) r.2 mm lm := by
  refine Ct_of (own := RX6) [some (.ref (ad Z 0 0)), some (.int a1), none, none, none, none, none, none, none] ⟨by decide, rfl⟩ rfl (Nat.le_of_ble_eq_true rfl) rfl (fun X hX hF => ?_)
  have g : G (fun r : Int32 × CM => Fx Z X (some .int) (some (.int r.1)) r.2 mm lm) (f_X6_sure cm a1) (J Z X 9 cm mm lm 0 [some (.ref (ad Z 0 0)), some (.int a1), none, none, none, none, none, none, none] []) := by
    unfold f_X6_sure
    refine g_iload_n hX dX6_sure_0 rfl rfl ?_
    refine g_iconst hX dX6_sure_1 ic_1 ?_
    refine g_callS hX (As := [.int a1, .int 1]) (fun r => (some (.int r))) (fun _ => cm) (fun _ => mm) (fun _ => lm) (fun r hr => c_X6_isWithin  hr) mi_X6_isWithin ml_6_56 rfl rfl rfl (Nat.le_of_ble_eq_true rfl) dX6_sure_2 ?_
    intro x2 hx2
    refine g_if_ne hX dX6_sure_5 (fun h5 => ?_) (fun h5 => ?_)
    · refine g_bipush hX dX6_sure_8 bp_m2 ?_
      exact g_iret hX (fun h => h) dX6_sure_10
    · refine g_ldc hX dX6_sure_11 kc_190 ?_
      refine g_istore_n hX dX6_sure_13 rfl (Nat.le_of_ble_eq_true rfl) rfl ?_
      refine g_iconst hX dX6_sure_14 ic_0 ?_
      refine g_istore_n hX dX6_sure_15 rfl (Nat.le_of_ble_eq_true rfl) rfl ?_
      refine g_aload_n hX dX6_sure_16 rfl rfl ?_
      refine g_get hX fi_6_30 p6_0 e6_0 rfl dX6_sure_17 ?_
      refine g_aload_n hX dX6_sure_20 rfl rfl ?_
      refine g_get hX fi_6_12 p6_0 e6_0 rfl dX6_sure_21 ?_
      refine g_callV hX (As := [.ref (ad Z 1 0)]) (fun _ => none) (fun r => r) (fun _ => mm) (fun _ => lm) (fun r hr => c_X3_copyFrom isOf28 isOf1 hr) mi_X3_copyFrom ml_6_166 (okO isOf28 (by decide)) (e3_0 isOf28) rfl rfl rfl rfl rfl (Nat.le_of_ble_eq_true rfl) dX6_sure_24 ?_
      intro r24 hr24
      refine g_iconst hX dX6_sure_27 ic_0 ?_
      refine g_istore hX dX6_sure_28 (Nat.le_of_ble_eq_true rfl) rfl ?_
      refine g_loop (Hd := fun s : Int32 × Int32 × Int32 × CM => J Z X 9 s.2.2.2 mm lm 30 [some (.ref (ad Z 0 0)), some (.int a1), some (.int s.1), some (.int s.2.1), some (.int s.2.2.1), none, none, none, none] []) (Ex := fun s : Int32 × Int32 × Int32 × CM => J Z X 9 s.2.2.2 mm lm 133 [some (.ref (ad Z 0 0)), some (.int a1), some (.int s.1), some (.int s.2.1), some (.int s.2.2.1), none, none, none, none] []) ?_ ?_
      · rintro ⟨s30_2, s30_3, s30_4, c30_⟩
        show G _ (f_X6_sure_B30 s30_2 s30_3 s30_4 c30_) (J Z X 9 c30_ mm lm 30 [some (.ref (ad Z 0 0)), some (.int a1), some (.int s30_2), some (.int s30_3), some (.int s30_4), none, none, none, none] [])
        unfold f_X6_sure_B30
        refine g_iload hX dX6_sure_30 rfl ?_
        refine g_sipush hX dX6_sure_32 sp_256 ?_
        refine g_icmp_ge hX dX6_sure_35 (fun h35 => ?_) (fun h35 => ?_)
        · exact g_wk (lv0 := [some (.ref (ad Z 0 0)), some (.int a1), some (.int s30_2), some (.int s30_3), some (.int s30_4), none, none, none, none]) ⟨rfl, rfl, rfl, rfl, rfl, trivial⟩ (g_end (fun h => h))
        · refine g_iload hX dX6_sure_38 rfl ?_
          refine g_bipush hX dX6_sure_40 bp_6 ?_
          refine g_ishr hX dX6_sure_42 ?_
          refine g_istore hX dX6_sure_43 (Nat.le_of_ble_eq_true rfl) rfl ?_
          refine g_iload hX dX6_sure_45 rfl ?_
          refine g_iconst hX dX6_sure_47 ic_4 ?_
          refine g_ishr hX dX6_sure_48 ?_
          refine g_iconst hX dX6_sure_49 ic_3 ?_
          refine g_iand hX dX6_sure_50 ?_
          refine g_istore hX dX6_sure_51 (Nat.le_of_ble_eq_true rfl) rfl ?_
          refine g_iload hX dX6_sure_53 rfl ?_
          refine g_iconst hX dX6_sure_55 ic_2 ?_
          refine g_ishr hX dX6_sure_56 ?_
          refine g_iconst hX dX6_sure_57 ic_3 ?_
          refine g_iand hX dX6_sure_58 ?_
          refine g_istore hX dX6_sure_59 (Nat.le_of_ble_eq_true rfl) rfl ?_
          refine g_iload hX dX6_sure_61 rfl ?_
          refine g_iconst hX dX6_sure_63 ic_3 ?_
          refine g_iand hX dX6_sure_64 ?_
          refine g_istore hX dX6_sure_65 (Nat.le_of_ble_eq_true rfl) rfl ?_
          refine g_iload hX dX6_sure_67 rfl ?_
          refine g_iload hX dX6_sure_69 rfl ?_
          refine g_iload hX dX6_sure_71 rfl ?_
          refine g_iload hX dX6_sure_73 rfl ?_
          refine g_callS hX (As := [.int (s30_4 >>> (6 &&& 31)), .int ((s30_4 >>> (4 &&& 31)) &&& 3), .int ((s30_4 >>> (2 &&& 31)) &&& 3), .int (s30_4 &&& 3)]) (fun r => (some (.int r))) (fun _ => c30_) (fun _ => mm) (fun _ => lm) (fun r hr => c_X6_isOrder  hr) mi_X6_isOrder ml_6_114 rfl rfl rfl (Nat.le_of_ble_eq_true rfl) dX6_sure_75 ?_
          intro x75 hx75
          refine g_if_eq hX dX6_sure_78 (fun h78 => ?_) (fun h78 => ?_)
          · refine g_iinc hX dX6_sure_127 ic_1 rfl (Nat.le_of_ble_eq_true rfl) rfl ?_
            refine g_goto hX dX6_sure_130 ?_
            exact g_wk (lv0 := [some (.ref (ad Z 0 0)), some (.int a1), some (.int s30_2), some (.int s30_3), some (.int (s30_4 + 1)), none, none, none, none]) ⟨rfl, rfl, rfl, rfl, rfl, trivial⟩ (g_end (fun h => h))
          · refine g_aload_n hX dX6_sure_81 rfl rfl ?_
            refine g_get hX fi_6_30 p6_0 e6_0 rfl dX6_sure_82 ?_
            refine g_iload hX dX6_sure_85 rfl ?_
            refine g_iload hX dX6_sure_87 rfl ?_
            refine g_iload hX dX6_sure_89 rfl ?_
            refine g_iload hX dX6_sure_91 rfl ?_
            refine g_callV hX (As := [.int (s30_4 >>> (6 &&& 31)), .int ((s30_4 >>> (4 &&& 31)) &&& 3), .int ((s30_4 >>> (2 &&& 31)) &&& 3), .int (s30_4 &&& 3)]) (fun _ => none) (fun r => r) (fun _ => mm) (fun _ => lm) (fun r hr => c_X3_setOrder isOf28 hr) mi_X3_setOrder ml_6_118 (okO isOf28 (by decide)) (e3_0 isOf28) rfl rfl rfl rfl rfl (Nat.le_of_ble_eq_true rfl) dX6_sure_93 ?_
            intro r93 hr93
            refine g_aload_n hX dX6_sure_96 rfl rfl ?_
            refine g_get hX fi_6_33 p6_0 e6_0 rfl dX6_sure_97 ?_
            refine g_aload_n hX dX6_sure_100 rfl rfl ?_
            refine g_get hX fi_6_30 p6_0 e6_0 rfl dX6_sure_101 ?_
            refine g_callV hX (As := [.ref (ad Z 28 0)]) (fun _ => none) (fun r => r) (fun _ => mm) (fun _ => lm) (fun r hr => c_X0_make isCh29 isOf28 hr) mi_X0_make ml_6_170 (okC isCh29 (by decide)) (e0_0 isCh29) rfl rfl rfl rfl rfl (Nat.le_of_ble_eq_true rfl) dX6_sure_104 ?_
            intro r104 hr104
            refine g_iload_n hX dX6_sure_107 rfl rfl ?_
            refine g_aload_n hX dX6_sure_108 rfl rfl ?_
            refine g_get hX fi_6_33 p6_0 e6_0 rfl dX6_sure_109 ?_
            refine g_callV hX (As := []) (fun r => (some (.int r))) (fun _ => r104) (fun _ => mm) (fun _ => lm) (fun r hr => c_X0_members isCh29 hr) mi_X0_members ml_6_173 (okC isCh29 (by decide)) (e0_0 isCh29) rfl rfl rfl rfl rfl (Nat.le_of_ble_eq_true rfl) dX6_sure_112 ?_
            intro x112 hx112
            refine g_iand hX dX6_sure_115 ?_
            refine g_istore_n hX dX6_sure_116 rfl (Nat.le_of_ble_eq_true rfl) rfl ?_
            refine g_iload_n hX dX6_sure_117 rfl rfl ?_
            refine g_aload_n hX dX6_sure_118 rfl rfl ?_
            refine g_get hX fi_6_33 p6_0 e6_0 rfl dX6_sure_119 ?_
            refine g_callV hX (As := []) (fun r => (some (.int r))) (fun _ => r104) (fun _ => mm) (fun _ => lm) (fun r hr => c_X0_members isCh29 hr) mi_X0_members ml_6_173 (okC isCh29 (by decide)) (e0_0 isCh29) rfl rfl rfl rfl rfl (Nat.le_of_ble_eq_true rfl) dX6_sure_122 ?_
            intro x122 hx122
            refine g_ior hX dX6_sure_125 ?_
            refine g_istore_n hX dX6_sure_126 rfl (Nat.le_of_ble_eq_true rfl) rfl ?_
            refine g_iinc hX dX6_sure_127 ic_1 rfl (Nat.le_of_ble_eq_true rfl) rfl ?_
            refine g_goto hX dX6_sure_130 ?_
            exact g_wk (lv0 := [some (.ref (ad Z 0 0)), some (.int a1), some (.int (s30_2 &&& x112)), some (.int (s30_3 ||| x122)), some (.int (s30_4 + 1)), none, none, none, none]) ⟨rfl, rfl, rfl, rfl, rfl, trivial⟩ (g_end (fun h => h))
      · rintro ⟨s30_2, s30_3, s30_4, c30_⟩
        show G _ _ (J Z X 9 c30_ mm lm 133 [some (.ref (ad Z 0 0)), some (.int a1), some (.int s30_2), some (.int s30_3), some (.int s30_4), none, none, none, none] [])
        refine g_iload_n hX dX6_sure_133 rfl rfl ?_
        refine g_if_ne hX dX6_sure_134 (fun h134 => ?_) (fun h134 => ?_)
        · refine g_iload_n hX dX6_sure_137 rfl rfl ?_
          refine g_goto hX dX6_sure_138 ?_
          exact g_iret hX (fun h => h) dX6_sure_142
        · refine g_iload_n hX dX6_sure_141 rfl rfl ?_
          exact g_iret hX (fun h => h) dX6_sure_142
  exact g r h hF

def f_X6_leastMark_B16 (a1 : Int32) (s16_2 : Int32) (s16_3 : Int32) (c16_ : CM) : Option (((Int32 × Int32 × CM) ⊕ (Int32 × CM)) ⊕ (Int32 × Int32 × CM)) :=
  if 99 < s16_3 then
    some (.inl (.inl (s16_2, s16_3, c16_)))
  else
    (f_X3_set c16_ 28 0 a1 s16_3).bind fun r29 =>
    (f_X3_countAhead r29 28 a1).bind fun x37 =>
    if x37 = s16_2 then
      some (.inr (s16_2, s16_3 + 1, r29))
    else
      (f_X0_make r29 29 28).bind fun r59 =>
      (f_X0_has r59 29 a1).bind fun x67 =>
      if x67 = 0 then
        some (.inr (x37, s16_3 + 1, r59))
      else
        some (.inl (.inr (s16_3, r59)))

def f_X6_leastMark (cm : CM) (a1 : Int32) : Option (Int32 × CM) :=
  (f_X3_copyFrom cm 28 1).bind fun r8 =>
  (itr (fun s : Int32 × Int32 × CM => f_X6_leastMark_B16 a1 s.1 s.2.1 s.2.2) 2000 ((-9), 0, r8)).bind fun ou => match ou with
  | .inr r => some r
  | .inl (s16_2, s16_3, c16_) =>
  some ((-9), c16_)

abbrev rm_X6_leastMark : Room := { frames := 6, cells := 0, slots := 0, locals := 144 }
set_option maxHeartbeats 2000000 in
set_option maxRecDepth 20000 in
theorem c_X6_leastMark {Z : ZC} {cm : CM} {mm : MM} {lm : LM} {a1 : Int32} {r : Int32 × CM}  (h : f_X6_leastMark cm a1 = some r) : Ct Z yX6_leastMark cX6_leastMark 5 (some .int) rm_X6_leastMark [.ref (ad Z 0 0), .int a1] cm mm lm (some (.int r.1)) r.2 mm lm := by
  refine Ct_of (own := RX6) [some (.ref (ad Z 0 0)), some (.int a1), none, none, none] ⟨by decide, rfl⟩ rfl (Nat.le_of_ble_eq_true rfl) rfl (fun X hX hF => ?_)
  have g : G (fun r : Int32 × CM => Fx Z X (some .int) (some (.int r.1)) r.2 mm lm) (f_X6_leastMark cm a1) (J Z X 5 cm mm lm 0 [some (.ref (ad Z 0 0)), some (.int a1), none, none, none] []) := by
    unfold f_X6_leastMark
    refine g_aload_n hX dX6_leastMark_0 rfl rfl ?_
    refine g_get hX fi_6_30 p6_0 e6_0 rfl dX6_leastMark_1 ?_
    refine g_aload_n hX dX6_leastMark_4 rfl rfl ?_
    refine g_get hX fi_6_12 p6_0 e6_0 rfl dX6_leastMark_5 ?_
    refine g_callV hX (As := [.ref (ad Z 1 0)]) (fun _ => none) (fun r => r) (fun _ => mm) (fun _ => lm) (fun r hr => c_X3_copyFrom isOf28 isOf1 hr) mi_X3_copyFrom ml_6_166 (okO isOf28 (by decide)) (e3_0 isOf28) rfl rfl rfl rfl rfl (Nat.le_of_ble_eq_true rfl) dX6_leastMark_8 ?_
    intro r8 hr8
    refine g_bipush hX dX6_leastMark_11 bp_m9 ?_
    refine g_istore_n hX dX6_leastMark_13 rfl (Nat.le_of_ble_eq_true rfl) rfl ?_
    refine g_iconst hX dX6_leastMark_14 ic_0 ?_
    refine g_istore_n hX dX6_leastMark_15 rfl (Nat.le_of_ble_eq_true rfl) rfl ?_
    refine g_loop (Hd := fun s : Int32 × Int32 × CM => J Z X 5 s.2.2 mm lm 16 [some (.ref (ad Z 0 0)), some (.int a1), some (.int s.1), some (.int s.2.1), none] []) (Ex := fun ou : (Int32 × Int32 × CM) ⊕ (Int32 × CM) => match ou with | .inl e => J Z X 5 e.2.2 mm lm 81 [some (.ref (ad Z 0 0)), some (.int a1), some (.int e.1), some (.int e.2.1), none] [] | .inr r => Fx Z X (some .int) (some (.int r.1)) r.2 mm lm) ?_ ?_
    · rintro ⟨s16_2, s16_3, c16_⟩
      show G _ (f_X6_leastMark_B16 a1 s16_2 s16_3 c16_) (J Z X 5 c16_ mm lm 16 [some (.ref (ad Z 0 0)), some (.int a1), some (.int s16_2), some (.int s16_3), none] [])
      unfold f_X6_leastMark_B16
      refine g_iload_n hX dX6_leastMark_16 rfl rfl ?_
      refine g_bipush hX dX6_leastMark_17 bp_99 ?_
      refine g_icmp_gt hX dX6_leastMark_19 (fun h19 => ?_) (fun h19 => ?_)
      · exact g_wk (lv0 := [some (.ref (ad Z 0 0)), some (.int a1), some (.int s16_2), some (.int s16_3), none]) ⟨rfl, rfl, rfl, rfl, trivial⟩ (g_end (fun h => h))
      · refine g_aload_n hX dX6_leastMark_22 rfl rfl ?_
        refine g_get hX fi_6_30 p6_0 e6_0 rfl dX6_leastMark_23 ?_
        refine g_iconst hX dX6_leastMark_26 ic_0 ?_
        refine g_iload_n hX dX6_leastMark_27 rfl rfl ?_
        refine g_iload_n hX dX6_leastMark_28 rfl rfl ?_
        refine g_callV hX (As := [.int 0, .int a1, .int s16_3]) (fun _ => none) (fun r => r) (fun _ => mm) (fun _ => lm) (fun r hr => c_X3_set isOf28 hr) mi_X3_set ml_6_74 (okO isOf28 (by decide)) (e3_0 isOf28) rfl rfl rfl rfl rfl (Nat.le_of_ble_eq_true rfl) dX6_leastMark_29 ?_
        intro r29 hr29
        refine g_aload_n hX dX6_leastMark_32 rfl rfl ?_
        refine g_get hX fi_6_30 p6_0 e6_0 rfl dX6_leastMark_33 ?_
        refine g_iload_n hX dX6_leastMark_36 rfl rfl ?_
        refine g_callV hX (As := [.int a1]) (fun r => (some (.int r))) (fun _ => r29) (fun _ => mm) (fun _ => lm) (fun r hr => c_X3_countAhead isOf28 hr) mi_X3_countAhead ml_6_93 (okO isOf28 (by decide)) (e3_0 isOf28) rfl rfl rfl rfl rfl (Nat.le_of_ble_eq_true rfl) dX6_leastMark_37 ?_
        intro x37 hx37
        refine g_istore hX dX6_leastMark_40 (Nat.le_of_ble_eq_true rfl) rfl ?_
        refine g_iload hX dX6_leastMark_42 rfl ?_
        refine g_iload_n hX dX6_leastMark_44 rfl rfl ?_
        refine g_icmp_eq hX dX6_leastMark_45 (fun h45 => ?_) (fun h45 => ?_)
        · refine g_iinc hX dX6_leastMark_75 ic_1 rfl (Nat.le_of_ble_eq_true rfl) rfl ?_
          refine g_goto hX dX6_leastMark_78 ?_
          exact g_wk (lv0 := [some (.ref (ad Z 0 0)), some (.int a1), some (.int s16_2), some (.int (s16_3 + 1)), none]) ⟨rfl, rfl, rfl, rfl, trivial⟩ (g_end (fun h => h))
        · refine g_iload hX dX6_leastMark_48 rfl ?_
          refine g_istore_n hX dX6_leastMark_50 rfl (Nat.le_of_ble_eq_true rfl) rfl ?_
          refine g_aload_n hX dX6_leastMark_51 rfl rfl ?_
          refine g_get hX fi_6_33 p6_0 e6_0 rfl dX6_leastMark_52 ?_
          refine g_aload_n hX dX6_leastMark_55 rfl rfl ?_
          refine g_get hX fi_6_30 p6_0 e6_0 rfl dX6_leastMark_56 ?_
          refine g_callV hX (As := [.ref (ad Z 28 0)]) (fun _ => none) (fun r => r) (fun _ => mm) (fun _ => lm) (fun r hr => c_X0_make isCh29 isOf28 hr) mi_X0_make ml_6_170 (okC isCh29 (by decide)) (e0_0 isCh29) rfl rfl rfl rfl rfl (Nat.le_of_ble_eq_true rfl) dX6_leastMark_59 ?_
          intro r59 hr59
          refine g_aload_n hX dX6_leastMark_62 rfl rfl ?_
          refine g_get hX fi_6_33 p6_0 e6_0 rfl dX6_leastMark_63 ?_
          refine g_iload_n hX dX6_leastMark_66 rfl rfl ?_
          refine g_callV hX (As := [.int a1]) (fun r => (some (.int r))) (fun _ => r59) (fun _ => mm) (fun _ => lm) (fun r hr => c_X0_has isCh29 hr) mi_X0_has ml_6_200 (okC isCh29 (by decide)) (e0_0 isCh29) rfl rfl rfl rfl rfl (Nat.le_of_ble_eq_true rfl) dX6_leastMark_67 ?_
          intro x67 hx67
          refine g_if_eq hX dX6_leastMark_70 (fun h70 => ?_) (fun h70 => ?_)
          · refine g_iinc hX dX6_leastMark_75 ic_1 rfl (Nat.le_of_ble_eq_true rfl) rfl ?_
            refine g_goto hX dX6_leastMark_78 ?_
            exact g_wk (lv0 := [some (.ref (ad Z 0 0)), some (.int a1), some (.int x37), some (.int (s16_3 + 1)), none]) ⟨rfl, rfl, rfl, rfl, trivial⟩ (g_end (fun h => h))
          · refine g_iload_n hX dX6_leastMark_73 rfl rfl ?_
            exact g_iret hX (fun h => h) dX6_leastMark_74
    · rintro (⟨s16_2, s16_3, c16_⟩ | r)
      · show G _ _ (J Z X 5 c16_ mm lm 81 [some (.ref (ad Z 0 0)), some (.int a1), some (.int s16_2), some (.int s16_3), none] [])
        refine g_bipush hX dX6_leastMark_81 bp_m9 ?_
        exact g_iret hX (fun h => h) dX6_leastMark_83
      · exact g_end (fun h => h)
  exact g r h hF

def f_X6_threshold (cm : CM) (a1 : Int32) : Option (Int32 × CM) :=
  (f_X6_isPerson cm a1).bind fun x2 =>
  if x2 = 0 then
    some ((-1), cm)
  else
    (f_X3_isActive cm 1 a1).bind fun x15 =>
    if x15 = 0 then
      some ((-3), cm)
    else
      (f_X6_leastMark cm a1).bind fun r23 =>
      some (r23.1, r23.2)

abbrev rm_X6_threshold : Room := { frames := 7, cells := 0, slots := 0, locals := 168 }
set_option maxHeartbeats 2000000 in
set_option maxRecDepth 20000 in
theorem c_X6_threshold {Z : ZC} {cm : CM} {mm : MM} {lm : LM} {a1 : Int32} {r : Int32 × CM}  (h : f_X6_threshold cm a1 = some r) : Ct Z yX6_threshold cX6_threshold 2 (some .int) rm_X6_threshold [.ref (ad Z 0 0), .int a1] cm mm lm (some (.int r.1)) r.2 mm lm := by
  refine Ct_of (own := RX6) [some (.ref (ad Z 0 0)), some (.int a1)] ⟨by decide, rfl⟩ rfl (Nat.le_of_ble_eq_true rfl) rfl (fun X hX hF => ?_)
  have g : G (fun r : Int32 × CM => Fx Z X (some .int) (some (.int r.1)) r.2 mm lm) (f_X6_threshold cm a1) (J Z X 2 cm mm lm 0 [some (.ref (ad Z 0 0)), some (.int a1)] []) := by
    unfold f_X6_threshold
    refine g_aload_n hX dX6_threshold_0 rfl rfl ?_
    refine g_iload_n hX dX6_threshold_1 rfl rfl ?_
    refine g_callV hX (As := [.int a1]) (fun r => (some (.int r))) (fun _ => cm) (fun _ => mm) (fun _ => lm) (fun r hr => c_X6_isPerson  hr) mi_X6_isPerson ml_6_86 p6_0 e6_0 rfl rfl rfl rfl rfl (Nat.le_of_ble_eq_true rfl) dX6_threshold_2 ?_
    intro x2 hx2
    refine g_if_ne hX dX6_threshold_5 (fun h5 => ?_) (fun h5 => ?_)
    · refine g_iconst hX dX6_threshold_8 ic_m1 ?_
      exact g_iret hX (fun h => h) dX6_threshold_9
    · refine g_aload_n hX dX6_threshold_10 rfl rfl ?_
      refine g_get hX fi_6_12 p6_0 e6_0 rfl dX6_threshold_11 ?_
      refine g_iload_n hX dX6_threshold_14 rfl rfl ?_
      refine g_callV hX (As := [.int a1]) (fun r => (some (.int r))) (fun _ => cm) (fun _ => mm) (fun _ => lm) (fun r hr => c_X3_isActive isOf1 hr) mi_X3_isActive ml_6_191 (okO isOf1 (by decide)) (e3_0 isOf1) rfl rfl rfl rfl rfl (Nat.le_of_ble_eq_true rfl) dX6_threshold_15 ?_
      intro x15 hx15
      refine g_if_eq hX dX6_threshold_18 (fun h18 => ?_) (fun h18 => ?_)
      · refine g_bipush hX dX6_threshold_29 bp_m3 ?_
        exact g_iret hX (fun h => h) dX6_threshold_31
      · refine g_aload_n hX dX6_threshold_21 rfl rfl ?_
        refine g_iload_n hX dX6_threshold_22 rfl rfl ?_
        refine g_callV hX (As := [.int a1]) (fun r => (some (.int r.1))) (fun r => r.2) (fun _ => mm) (fun _ => lm) (fun r hr => c_X6_leastMark  hr) mi_X6_leastMark ml_6_194 p6_0 e6_0 rfl rfl rfl rfl rfl (Nat.le_of_ble_eq_true rfl) dX6_threshold_23 ?_
        intro r23 hr23
        refine g_goto hX dX6_threshold_26 ?_
        exact g_iret hX (fun h => h) dX6_threshold_31
  exact g r h hF

def f_X6_leastGroups_B32 (a1 : Int32) (x18 : Int32) (s24_3 : Int32) (s32_4 : Int32) (c32_ : CM) : Option (((Int32 × CM) ⊕ (Int32 × CM)) ⊕ (Int32 × CM)) :=
  if 16 ≤ s32_4 then
    some (.inl (.inl (s32_4, c32_)))
  else
    (f_J6_bitCount_0f7a4 s32_4).bind fun x41 =>
    if x41 = s24_3 then
      if (s32_4 &&& x18) = 0 then
        (f_X3_set c32_ 28 48 a1 (x18 ||| s32_4)).bind fun r66 =>
        (f_X0_make r66 29 28).bind fun r77 =>
        (f_X0_has r77 29 a1).bind fun x85 =>
        if x85 = 0 then
          some (.inr (s32_4 + 1, r77))
        else
          some (.inl (.inr (s32_4, r77)))
      else
        some (.inr (s32_4 + 1, c32_))
    else
      some (.inr (s32_4 + 1, c32_))

def f_X6_leastGroups_B24 (a1 : Int32) (x18 : Int32) (s24_3 : Int32) (c24_ : CM) : Option (((Int32 × CM) ⊕ (Int32 × CM)) ⊕ (Int32 × CM)) :=
  if 4 < s24_3 then
    some (.inl (.inl (s24_3, c24_)))
  else
    (itr (fun s : Int32 × CM => f_X6_leastGroups_B32 a1 x18 s24_3 s.1 s.2) 2000 (0, c24_)).bind fun ou => match ou with
    | .inr r => some (.inl (.inr r))
    | .inl (s32_4, c32_) =>
    some (.inr (s24_3 + 1, c32_))

def f_X6_leastGroups (cm : CM) (a1 : Int32) : Option (Int32 × CM) :=
  (f_X3_copyFrom cm 28 1).bind fun r8 =>
  (f_X3_get r8 1 48 a1).bind fun x18 =>
  (itr (fun s : Int32 × CM => f_X6_leastGroups_B24 a1 x18 s.1 s.2) 2000 (0, r8)).bind fun ou => match ou with
  | .inr r => some r
  | .inl (s24_3, c24_) =>
  some ((-9), c24_)

abbrev rm_X6_leastGroups : Room := { frames := 6, cells := 0, slots := 0, locals := 144 }
set_option maxHeartbeats 2000000 in
set_option maxRecDepth 20000 in
theorem c_X6_leastGroups {Z : ZC} {cm : CM} {mm : MM} {lm : LM} {a1 : Int32} {r : Int32 × CM}  (h : f_X6_leastGroups cm a1 = some r) : Ct Z yX6_leastGroups cX6_leastGroups 5 (some .int) rm_X6_leastGroups [.ref (ad Z 0 0), .int a1] cm mm lm (some (.int r.1)) r.2 mm lm := by
  refine Ct_of (own := RX6) [some (.ref (ad Z 0 0)), some (.int a1), none, none, none] ⟨by decide, rfl⟩ rfl (Nat.le_of_ble_eq_true rfl) rfl (fun X hX hF => ?_)
  have g : G (fun r : Int32 × CM => Fx Z X (some .int) (some (.int r.1)) r.2 mm lm) (f_X6_leastGroups cm a1) (J Z X 5 cm mm lm 0 [some (.ref (ad Z 0 0)), some (.int a1), none, none, none] []) := by
    unfold f_X6_leastGroups
    refine g_aload_n hX dX6_leastGroups_0 rfl rfl ?_
    refine g_get hX fi_6_30 p6_0 e6_0 rfl dX6_leastGroups_1 ?_
    refine g_aload_n hX dX6_leastGroups_4 rfl rfl ?_
    refine g_get hX fi_6_12 p6_0 e6_0 rfl dX6_leastGroups_5 ?_
    refine g_callV hX (As := [.ref (ad Z 1 0)]) (fun _ => none) (fun r => r) (fun _ => mm) (fun _ => lm) (fun r hr => c_X3_copyFrom isOf28 isOf1 hr) mi_X3_copyFrom ml_6_166 (okO isOf28 (by decide)) (e3_0 isOf28) rfl rfl rfl rfl rfl (Nat.le_of_ble_eq_true rfl) dX6_leastGroups_8 ?_
    intro r8 hr8
    refine g_aload_n hX dX6_leastGroups_11 rfl rfl ?_
    refine g_get hX fi_6_12 p6_0 e6_0 rfl dX6_leastGroups_12 ?_
    refine g_bipush hX dX6_leastGroups_15 bp_48 ?_
    refine g_iload_n hX dX6_leastGroups_17 rfl rfl ?_
    refine g_callV hX (As := [.int 48, .int a1]) (fun r => (some (.int r))) (fun _ => r8) (fun _ => mm) (fun _ => lm) (fun r hr => c_X3_get isOf1 hr) mi_X3_get ml_6_89 (okO isOf1 (by decide)) (e3_0 isOf1) rfl rfl rfl rfl rfl (Nat.le_of_ble_eq_true rfl) dX6_leastGroups_18 ?_
    intro x18 hx18
    refine g_istore_n hX dX6_leastGroups_21 rfl (Nat.le_of_ble_eq_true rfl) rfl ?_
    refine g_iconst hX dX6_leastGroups_22 ic_0 ?_
    refine g_istore_n hX dX6_leastGroups_23 rfl (Nat.le_of_ble_eq_true rfl) rfl ?_
    refine g_loop (Hd := fun s : Int32 × CM => J Z X 5 s.2 mm lm 24 [some (.ref (ad Z 0 0)), some (.int a1), some (.int x18), some (.int s.1), none] []) (Ex := fun ou : (Int32 × CM) ⊕ (Int32 × CM) => match ou with | .inl e => J Z X 5 e.2 mm lm 106 [some (.ref (ad Z 0 0)), some (.int a1), some (.int x18), some (.int e.1), none] [] | .inr r => Fx Z X (some .int) (some (.int r.1)) r.2 mm lm) ?_ ?_
    · rintro ⟨s24_3, c24_⟩
      show G _ (f_X6_leastGroups_B24 a1 x18 s24_3 c24_) (J Z X 5 c24_ mm lm 24 [some (.ref (ad Z 0 0)), some (.int a1), some (.int x18), some (.int s24_3), none] [])
      unfold f_X6_leastGroups_B24
      refine g_iload_n hX dX6_leastGroups_24 rfl rfl ?_
      refine g_iconst hX dX6_leastGroups_25 ic_4 ?_
      refine g_icmp_gt hX dX6_leastGroups_26 (fun h26 => ?_) (fun h26 => ?_)
      · exact g_wk (lv0 := [some (.ref (ad Z 0 0)), some (.int a1), some (.int x18), some (.int s24_3), none]) ⟨rfl, rfl, rfl, rfl, trivial⟩ (g_end (fun h => h))
      · refine g_iconst hX dX6_leastGroups_29 ic_0 ?_
        refine g_istore hX dX6_leastGroups_30 (Nat.le_of_ble_eq_true rfl) rfl ?_
        refine g_loop (Hd := fun s : Int32 × CM => J Z X 5 s.2 mm lm 32 [some (.ref (ad Z 0 0)), some (.int a1), some (.int x18), some (.int s24_3), some (.int s.1)] []) (Ex := fun ou : (Int32 × CM) ⊕ (Int32 × CM) => match ou with | .inl e => J Z X 5 e.2 mm lm 100 [some (.ref (ad Z 0 0)), some (.int a1), some (.int x18), some (.int s24_3), some (.int e.1)] [] | .inr r => Fx Z X (some .int) (some (.int r.1)) r.2 mm lm) ?_ ?_
        · rintro ⟨s32_4, c32_⟩
          show G _ (f_X6_leastGroups_B32 a1 x18 s24_3 s32_4 c32_) (J Z X 5 c32_ mm lm 32 [some (.ref (ad Z 0 0)), some (.int a1), some (.int x18), some (.int s24_3), some (.int s32_4)] [])
          unfold f_X6_leastGroups_B32
          refine g_iload hX dX6_leastGroups_32 rfl ?_
          refine g_bipush hX dX6_leastGroups_34 bp_16 ?_
          refine g_icmp_ge hX dX6_leastGroups_36 (fun h36 => ?_) (fun h36 => ?_)
          · exact g_wk (lv0 := [some (.ref (ad Z 0 0)), some (.int a1), some (.int x18), some (.int s24_3), some (.int s32_4)]) ⟨rfl, rfl, rfl, rfl, rfl, trivial⟩ (g_end (fun h => h))
          · refine g_iload hX dX6_leastGroups_39 rfl ?_
            refine g_callS hX (As := [.int s32_4]) (fun r => (some (.int r))) (fun _ => c32_) (fun _ => mm) (fun _ => lm) (fun r hr => c_J6_bitCount_0f7a4  hr) mi_J6_bitCount_0f7a4 ml_6_176 rfl rfl rfl (Nat.le_of_ble_eq_true rfl) dX6_leastGroups_41 ?_
            intro x41 hx41
            refine g_iload_n hX dX6_leastGroups_44 rfl rfl ?_
            refine g_icmp_ne hX dX6_leastGroups_45 (fun h45 => ?_) (fun h45 => ?_)
            · refine g_iload hX dX6_leastGroups_48 rfl ?_
              refine g_iload_n hX dX6_leastGroups_50 rfl rfl ?_
              refine g_iand hX dX6_leastGroups_51 ?_
              refine g_if_ne hX dX6_leastGroups_52 (fun h52 => ?_) (fun h52 => ?_)
              · refine g_aload_n hX dX6_leastGroups_55 rfl rfl ?_
                refine g_get hX fi_6_30 p6_0 e6_0 rfl dX6_leastGroups_56 ?_
                refine g_bipush hX dX6_leastGroups_59 bp_48 ?_
                refine g_iload_n hX dX6_leastGroups_61 rfl rfl ?_
                refine g_iload_n hX dX6_leastGroups_62 rfl rfl ?_
                refine g_iload hX dX6_leastGroups_63 rfl ?_
                refine g_ior hX dX6_leastGroups_65 ?_
                refine g_callV hX (As := [.int 48, .int a1, .int (x18 ||| s32_4)]) (fun _ => none) (fun r => r) (fun _ => mm) (fun _ => lm) (fun r hr => c_X3_set isOf28 hr) mi_X3_set ml_6_74 (okO isOf28 (by decide)) (e3_0 isOf28) rfl rfl rfl rfl rfl (Nat.le_of_ble_eq_true rfl) dX6_leastGroups_66 ?_
                intro r66 hr66
                refine g_aload_n hX dX6_leastGroups_69 rfl rfl ?_
                refine g_get hX fi_6_33 p6_0 e6_0 rfl dX6_leastGroups_70 ?_
                refine g_aload_n hX dX6_leastGroups_73 rfl rfl ?_
                refine g_get hX fi_6_30 p6_0 e6_0 rfl dX6_leastGroups_74 ?_
                refine g_callV hX (As := [.ref (ad Z 28 0)]) (fun _ => none) (fun r => r) (fun _ => mm) (fun _ => lm) (fun r hr => c_X0_make isCh29 isOf28 hr) mi_X0_make ml_6_170 (okC isCh29 (by decide)) (e0_0 isCh29) rfl rfl rfl rfl rfl (Nat.le_of_ble_eq_true rfl) dX6_leastGroups_77 ?_
                intro r77 hr77
                refine g_aload_n hX dX6_leastGroups_80 rfl rfl ?_
                refine g_get hX fi_6_33 p6_0 e6_0 rfl dX6_leastGroups_81 ?_
                refine g_iload_n hX dX6_leastGroups_84 rfl rfl ?_
                refine g_callV hX (As := [.int a1]) (fun r => (some (.int r))) (fun _ => r77) (fun _ => mm) (fun _ => lm) (fun r hr => c_X0_has isCh29 hr) mi_X0_has ml_6_200 (okC isCh29 (by decide)) (e0_0 isCh29) rfl rfl rfl rfl rfl (Nat.le_of_ble_eq_true rfl) dX6_leastGroups_85 ?_
                intro x85 hx85
                refine g_if_eq hX dX6_leastGroups_88 (fun h88 => ?_) (fun h88 => ?_)
                · refine g_iinc hX dX6_leastGroups_94 ic_1 rfl (Nat.le_of_ble_eq_true rfl) rfl ?_
                  refine g_goto hX dX6_leastGroups_97 ?_
                  exact g_wk (lv0 := [some (.ref (ad Z 0 0)), some (.int a1), some (.int x18), some (.int s24_3), some (.int (s32_4 + 1))]) ⟨rfl, rfl, rfl, rfl, rfl, trivial⟩ (g_end (fun h => h))
                · refine g_iload hX dX6_leastGroups_91 rfl ?_
                  exact g_iret hX (fun h => h) dX6_leastGroups_93
              · refine g_iinc hX dX6_leastGroups_94 ic_1 rfl (Nat.le_of_ble_eq_true rfl) rfl ?_
                refine g_goto hX dX6_leastGroups_97 ?_
                exact g_wk (lv0 := [some (.ref (ad Z 0 0)), some (.int a1), some (.int x18), some (.int s24_3), some (.int (s32_4 + 1))]) ⟨rfl, rfl, rfl, rfl, rfl, trivial⟩ (g_end (fun h => h))
            · refine g_iinc hX dX6_leastGroups_94 ic_1 rfl (Nat.le_of_ble_eq_true rfl) rfl ?_
              refine g_goto hX dX6_leastGroups_97 ?_
              exact g_wk (lv0 := [some (.ref (ad Z 0 0)), some (.int a1), some (.int x18), some (.int s24_3), some (.int (s32_4 + 1))]) ⟨rfl, rfl, rfl, rfl, rfl, trivial⟩ (g_end (fun h => h))
        · rintro (⟨s32_4, c32_⟩ | r)
          · show G _ _ (J Z X 5 c32_ mm lm 100 [some (.ref (ad Z 0 0)), some (.int a1), some (.int x18), some (.int s24_3), some (.int s32_4)] [])
            refine g_iinc hX dX6_leastGroups_100 ic_1 rfl (Nat.le_of_ble_eq_true rfl) rfl ?_
            refine g_goto hX dX6_leastGroups_103 ?_
            exact g_wk (lv0 := [some (.ref (ad Z 0 0)), some (.int a1), some (.int x18), some (.int (s24_3 + 1)), none]) ⟨rfl, rfl, rfl, rfl, trivial⟩ (g_end (fun h => h))
          · exact g_end (fun h => h)
    · rintro (⟨s24_3, c24_⟩ | r)
      · show G _ _ (J Z X 5 c24_ mm lm 106 [some (.ref (ad Z 0 0)), some (.int a1), some (.int x18), some (.int s24_3), none] [])
        refine g_bipush hX dX6_leastGroups_106 bp_m9 ?_
        exact g_iret hX (fun h => h) dX6_leastGroups_108
      · exact g_end (fun h => h)
  exact g r h hF

def f_X6_claim (cm : CM) (a1 : Int32) : Option (Int32 × CM) :=
  (f_X6_isPerson cm a1).bind fun x2 =>
  if x2 = 0 then
    some ((-1), cm)
  else
    (f_X3_isActive cm 1 a1).bind fun x15 =>
    if x15 = 0 then
      some ((-3), cm)
    else
      (f_X6_leastGroups cm a1).bind fun r23 =>
      some (r23.1, r23.2)

abbrev rm_X6_claim : Room := { frames := 7, cells := 0, slots := 0, locals := 168 }
set_option maxHeartbeats 2000000 in
set_option maxRecDepth 20000 in
theorem c_X6_claim {Z : ZC} {cm : CM} {mm : MM} {lm : LM} {a1 : Int32} {r : Int32 × CM}  (h : f_X6_claim cm a1 = some r) : Ct Z yX6_claim cX6_claim 2 (some .int) rm_X6_claim [.ref (ad Z 0 0), .int a1] cm mm lm (some (.int r.1)) r.2 mm lm := by
  refine Ct_of (own := RX6) [some (.ref (ad Z 0 0)), some (.int a1)] ⟨by decide, rfl⟩ rfl (Nat.le_of_ble_eq_true rfl) rfl (fun X hX hF => ?_)
  have g : G (fun r : Int32 × CM => Fx Z X (some .int) (some (.int r.1)) r.2 mm lm) (f_X6_claim cm a1) (J Z X 2 cm mm lm 0 [some (.ref (ad Z 0 0)), some (.int a1)] []) := by
    unfold f_X6_claim
    refine g_aload_n hX dX6_claim_0 rfl rfl ?_
    refine g_iload_n hX dX6_claim_1 rfl rfl ?_
    refine g_callV hX (As := [.int a1]) (fun r => (some (.int r))) (fun _ => cm) (fun _ => mm) (fun _ => lm) (fun r hr => c_X6_isPerson  hr) mi_X6_isPerson ml_6_86 p6_0 e6_0 rfl rfl rfl rfl rfl (Nat.le_of_ble_eq_true rfl) dX6_claim_2 ?_
    intro x2 hx2
    refine g_if_ne hX dX6_claim_5 (fun h5 => ?_) (fun h5 => ?_)
    · refine g_iconst hX dX6_claim_8 ic_m1 ?_
      exact g_iret hX (fun h => h) dX6_claim_9
    · refine g_aload_n hX dX6_claim_10 rfl rfl ?_
      refine g_get hX fi_6_12 p6_0 e6_0 rfl dX6_claim_11 ?_
      refine g_iload_n hX dX6_claim_14 rfl rfl ?_
      refine g_callV hX (As := [.int a1]) (fun r => (some (.int r))) (fun _ => cm) (fun _ => mm) (fun _ => lm) (fun r hr => c_X3_isActive isOf1 hr) mi_X3_isActive ml_6_191 (okO isOf1 (by decide)) (e3_0 isOf1) rfl rfl rfl rfl rfl (Nat.le_of_ble_eq_true rfl) dX6_claim_15 ?_
      intro x15 hx15
      refine g_if_eq hX dX6_claim_18 (fun h18 => ?_) (fun h18 => ?_)
      · refine g_bipush hX dX6_claim_29 bp_m3 ?_
        exact g_iret hX (fun h => h) dX6_claim_31
      · refine g_aload_n hX dX6_claim_21 rfl rfl ?_
        refine g_iload_n hX dX6_claim_22 rfl rfl ?_
        refine g_callV hX (As := [.int a1]) (fun r => (some (.int r.1))) (fun r => r.2) (fun _ => mm) (fun _ => lm) (fun r hr => c_X6_leastGroups  hr) mi_X6_leastGroups ml_6_197 p6_0 e6_0 rfl rfl rfl rfl rfl (Nat.le_of_ble_eq_true rfl) dX6_claim_23 ?_
        intro r23 hr23
        refine g_goto hX dX6_claim_26 ?_
        exact g_iret hX (fun h => h) dX6_claim_31
  exact g r h hF

def f_X6_successor_B61 (r56 : CM) (s61_3 : Int32) : Option (((Int32) ⊕ (Int32 × CM)) ⊕ (Int32)) :=
  (f_X3_people r56 1).bind fun x66 =>
  if x66 ≤ s61_3 then
    some (.inl (.inl s61_3))
  else
    (f_X0_personAt r56 27 s61_3).bind fun x74 =>
    (f_X0_has r56 27 x74).bind fun x82 =>
    if x82 = 0 then
      (f_X0_has r56 29 x74).bind fun x94 =>
      if x94 = 0 then
        some (.inr (s61_3 + 1))
      else
        some (.inl (.inr (x74, r56)))
    else
      some (.inr (s61_3 + 1))

def f_X6_successor (cm : CM) (a1 : Int32) : Option (Int32 × CM) :=
  (f_X6_isPerson cm a1).bind fun x2 =>
  if x2 = 0 then
    some ((-1), cm)
  else
    (f_X6_presentChoice cm).bind fun r11 =>
    (f_X0_has r11 27 a1).bind fun x17 =>
    if x17 = 0 then
      some ((-3), r11)
    else
      (f_X3_copyFrom r11 28 1).bind fun r34 =>
      (f_X3_set r34 28 64 a1 4).bind fun r45 =>
      (f_X0_make r45 29 28).bind fun r56 =>
      (itr (fun s : Int32 => f_X6_successor_B61 r56 s) 2000 0).bind fun ou => match ou with
      | .inr r => some r
      | .inl s61_3 =>
      some ((-9), r56)

abbrev rm_X6_successor : Room := { frames := 7, cells := 0, slots := 0, locals := 164 }
set_option maxHeartbeats 2000000 in
set_option maxRecDepth 20000 in
theorem c_X6_successor {Z : ZC} {cm : CM} {mm : MM} {lm : LM} {a1 : Int32} {r : Int32 × CM}  (h : f_X6_successor cm a1 = some r) : Ct Z yX6_successor cX6_successor 5 (some .int) rm_X6_successor [.ref (ad Z 0 0), .int a1] cm mm lm (some (.int r.1)) r.2 mm lm := by
  refine Ct_of (own := RX6) [some (.ref (ad Z 0 0)), some (.int a1), none, none, none] ⟨by decide, rfl⟩ rfl (Nat.le_of_ble_eq_true rfl) rfl (fun X hX hF => ?_)
  have g : G (fun r : Int32 × CM => Fx Z X (some .int) (some (.int r.1)) r.2 mm lm) (f_X6_successor cm a1) (J Z X 5 cm mm lm 0 [some (.ref (ad Z 0 0)), some (.int a1), none, none, none] []) := by
    unfold f_X6_successor
    refine g_aload_n hX dX6_successor_0 rfl rfl ?_
    refine g_iload_n hX dX6_successor_1 rfl rfl ?_
    refine g_callV hX (As := [.int a1]) (fun r => (some (.int r))) (fun _ => cm) (fun _ => mm) (fun _ => lm) (fun r hr => c_X6_isPerson  hr) mi_X6_isPerson ml_6_86 p6_0 e6_0 rfl rfl rfl rfl rfl (Nat.le_of_ble_eq_true rfl) dX6_successor_2 ?_
    intro x2 hx2
    refine g_if_ne hX dX6_successor_5 (fun h5 => ?_) (fun h5 => ?_)
    · refine g_iconst hX dX6_successor_8 ic_m1 ?_
      exact g_iret hX (fun h => h) dX6_successor_9
    · refine g_aload_n hX dX6_successor_10 rfl rfl ?_
      refine g_callV hX (As := []) (fun _ => (some (.ref (ad Z 27 0)))) (fun r => r) (fun _ => mm) (fun _ => lm) (fun r hr => c_X6_presentChoice  hr) mi_X6_presentChoice ml_6_97 p6_0 e6_0 rfl rfl rfl rfl rfl (Nat.le_of_ble_eq_true rfl) dX6_successor_11 ?_
      intro r11 hr11
      refine g_astore_n hX dX6_successor_14 rfl (Nat.le_of_ble_eq_true rfl) rfl ?_
      refine g_aload_n hX dX6_successor_15 rfl rfl ?_
      refine g_iload_n hX dX6_successor_16 rfl rfl ?_
      refine g_callV hX (As := [.int a1]) (fun r => (some (.int r))) (fun _ => r11) (fun _ => mm) (fun _ => lm) (fun r hr => c_X0_has isCh27 hr) mi_X0_has ml_6_200 (okC isCh27 (by decide)) (e0_0 isCh27) rfl rfl rfl rfl rfl (Nat.le_of_ble_eq_true rfl) dX6_successor_17 ?_
      intro x17 hx17
      refine g_if_ne hX dX6_successor_20 (fun h20 => ?_) (fun h20 => ?_)
      · refine g_bipush hX dX6_successor_23 bp_m3 ?_
        exact g_iret hX (fun h => h) dX6_successor_25
      · refine g_aload_n hX dX6_successor_26 rfl rfl ?_
        refine g_get hX fi_6_30 p6_0 e6_0 rfl dX6_successor_27 ?_
        refine g_aload_n hX dX6_successor_30 rfl rfl ?_
        refine g_get hX fi_6_12 p6_0 e6_0 rfl dX6_successor_31 ?_
        refine g_callV hX (As := [.ref (ad Z 1 0)]) (fun _ => none) (fun r => r) (fun _ => mm) (fun _ => lm) (fun r hr => c_X3_copyFrom isOf28 isOf1 hr) mi_X3_copyFrom ml_6_166 (okO isOf28 (by decide)) (e3_0 isOf28) rfl rfl rfl rfl rfl (Nat.le_of_ble_eq_true rfl) dX6_successor_34 ?_
        intro r34 hr34
        refine g_aload_n hX dX6_successor_37 rfl rfl ?_
        refine g_get hX fi_6_30 p6_0 e6_0 rfl dX6_successor_38 ?_
        refine g_bipush hX dX6_successor_41 bp_64 ?_
        refine g_iload_n hX dX6_successor_43 rfl rfl ?_
        refine g_iconst hX dX6_successor_44 ic_4 ?_
        refine g_callV hX (As := [.int 64, .int a1, .int 4]) (fun _ => none) (fun r => r) (fun _ => mm) (fun _ => lm) (fun r hr => c_X3_set isOf28 hr) mi_X3_set ml_6_74 (okO isOf28 (by decide)) (e3_0 isOf28) rfl rfl rfl rfl rfl (Nat.le_of_ble_eq_true rfl) dX6_successor_45 ?_
        intro r45 hr45
        refine g_aload_n hX dX6_successor_48 rfl rfl ?_
        refine g_get hX fi_6_33 p6_0 e6_0 rfl dX6_successor_49 ?_
        refine g_aload_n hX dX6_successor_52 rfl rfl ?_
        refine g_get hX fi_6_30 p6_0 e6_0 rfl dX6_successor_53 ?_
        refine g_callV hX (As := [.ref (ad Z 28 0)]) (fun _ => none) (fun r => r) (fun _ => mm) (fun _ => lm) (fun r hr => c_X0_make isCh29 isOf28 hr) mi_X0_make ml_6_170 (okC isCh29 (by decide)) (e0_0 isCh29) rfl rfl rfl rfl rfl (Nat.le_of_ble_eq_true rfl) dX6_successor_56 ?_
        intro r56 hr56
        refine g_iconst hX dX6_successor_59 ic_0 ?_
        refine g_istore_n hX dX6_successor_60 rfl (Nat.le_of_ble_eq_true rfl) rfl ?_
        refine g_loop (Hd := fun s : Int32 => J Z X 5 r56 mm lm 61 [some (.ref (ad Z 0 0)), some (.int a1), some (.ref (ad Z 27 0)), some (.int s), none] []) (Ex := fun ou : (Int32) ⊕ (Int32 × CM) => match ou with | .inl e => J Z X 5 r56 mm lm 109 [some (.ref (ad Z 0 0)), some (.int a1), some (.ref (ad Z 27 0)), some (.int e), none] [] | .inr r => Fx Z X (some .int) (some (.int r.1)) r.2 mm lm) ?_ ?_
        · intro s61_3
          show G _ (f_X6_successor_B61 r56 s61_3) (J Z X 5 r56 mm lm 61 [some (.ref (ad Z 0 0)), some (.int a1), some (.ref (ad Z 27 0)), some (.int s61_3), none] [])
          unfold f_X6_successor_B61
          refine g_iload_n hX dX6_successor_61 rfl rfl ?_
          refine g_aload_n hX dX6_successor_62 rfl rfl ?_
          refine g_get hX fi_6_12 p6_0 e6_0 rfl dX6_successor_63 ?_
          refine g_callV hX (As := []) (fun r => (some (.int r))) (fun _ => r56) (fun _ => mm) (fun _ => lm) (fun r hr => c_X3_people isOf1 hr) mi_X3_people ml_6_67 (okO isOf1 (by decide)) (e3_0 isOf1) rfl rfl rfl rfl rfl (Nat.le_of_ble_eq_true rfl) dX6_successor_66 ?_
          intro x66 hx66
          refine g_icmp_ge hX dX6_successor_69 (fun h69 => ?_) (fun h69 => ?_)
          · exact g_wk (lv0 := [some (.ref (ad Z 0 0)), some (.int a1), some (.ref (ad Z 27 0)), some (.int s61_3), none]) ⟨rfl, rfl, rfl, rfl, trivial⟩ (g_end (fun h => h))
          · refine g_aload_n hX dX6_successor_72 rfl rfl ?_
            refine g_iload_n hX dX6_successor_73 rfl rfl ?_
            refine g_callV hX (As := [.int s61_3]) (fun r => (some (.int r))) (fun _ => r56) (fun _ => mm) (fun _ => lm) (fun r hr => c_X0_personAt isCh27 hr) mi_X0_personAt ml_6_101 (okC isCh27 (by decide)) (e0_0 isCh27) rfl rfl rfl rfl rfl (Nat.le_of_ble_eq_true rfl) dX6_successor_74 ?_
            intro x74 hx74
            refine g_istore hX dX6_successor_77 (Nat.le_of_ble_eq_true rfl) rfl ?_
            refine g_aload_n hX dX6_successor_79 rfl rfl ?_
            refine g_iload hX dX6_successor_80 rfl ?_
            refine g_callV hX (As := [.int x74]) (fun r => (some (.int r))) (fun _ => r56) (fun _ => mm) (fun _ => lm) (fun r hr => c_X0_has isCh27 hr) mi_X0_has ml_6_200 (okC isCh27 (by decide)) (e0_0 isCh27) rfl rfl rfl rfl rfl (Nat.le_of_ble_eq_true rfl) dX6_successor_82 ?_
            intro x82 hx82
            refine g_if_ne hX dX6_successor_85 (fun h85 => ?_) (fun h85 => ?_)
            · refine g_aload_n hX dX6_successor_88 rfl rfl ?_
              refine g_get hX fi_6_33 p6_0 e6_0 rfl dX6_successor_89 ?_
              refine g_iload hX dX6_successor_92 rfl ?_
              refine g_callV hX (As := [.int x74]) (fun r => (some (.int r))) (fun _ => r56) (fun _ => mm) (fun _ => lm) (fun r hr => c_X0_has isCh29 hr) mi_X0_has ml_6_200 (okC isCh29 (by decide)) (e0_0 isCh29) rfl rfl rfl rfl rfl (Nat.le_of_ble_eq_true rfl) dX6_successor_94 ?_
              intro x94 hx94
              refine g_if_eq hX dX6_successor_97 (fun h97 => ?_) (fun h97 => ?_)
              · refine g_iinc hX dX6_successor_103 ic_1 rfl (Nat.le_of_ble_eq_true rfl) rfl ?_
                refine g_goto hX dX6_successor_106 ?_
                exact g_wk (lv0 := [some (.ref (ad Z 0 0)), some (.int a1), some (.ref (ad Z 27 0)), some (.int (s61_3 + 1)), none]) ⟨rfl, rfl, rfl, rfl, trivial⟩ (g_end (fun h => h))
              · refine g_iload hX dX6_successor_100 rfl ?_
                exact g_iret hX (fun h => h) dX6_successor_102
            · refine g_iinc hX dX6_successor_103 ic_1 rfl (Nat.le_of_ble_eq_true rfl) rfl ?_
              refine g_goto hX dX6_successor_106 ?_
              exact g_wk (lv0 := [some (.ref (ad Z 0 0)), some (.int a1), some (.ref (ad Z 27 0)), some (.int (s61_3 + 1)), none]) ⟨rfl, rfl, rfl, rfl, trivial⟩ (g_end (fun h => h))
        · rintro (s61_3 | r)
          · show G _ _ (J Z X 5 r56 mm lm 109 [some (.ref (ad Z 0 0)), some (.int a1), some (.ref (ad Z 27 0)), some (.int s61_3), none] [])
            refine g_bipush hX dX6_successor_109 bp_m9 ?_
            exact g_iret hX (fun h => h) dX6_successor_111
          · exact g_end (fun h => h)
  exact g r h hF

def f_X6_passed_B42 (a1 : Int32) (r11 : CM) (s42_3 : Int32) (s42_4 : Int32) : Option ((Int32 × Int32) ⊕ (Int32 × Int32)) :=
  (f_X3_people r11 1).bind fun x48 =>
  if x48 ≤ s42_4 then
    some (.inl (s42_3, s42_4))
  else
    (f_X0_has r11 27 s42_4).bind fun x57 =>
    if x57 = 0 then
      some (.inr (s42_3, s42_4 + 1))
    else
      (f_X3_isAhead r11 1 a1 s42_4).bind fun x70 =>
      if x70 = 0 then
        some (.inr (s42_3, s42_4 + 1))
      else
        some (.inr (s42_3 ||| (1 <<< (s42_4 &&& 31)), s42_4 + 1))

def f_X6_passed (cm : CM) (a1 : Int32) : Option (Int32 × CM) :=
  (f_X6_isPerson cm a1).bind fun x2 =>
  if x2 = 0 then
    some ((-1), cm)
  else
    (f_X6_presentChoice cm).bind fun r11 =>
    (f_X3_isActive r11 1 a1).bind fun x20 =>
    if x20 = 0 then
      some ((-3), r11)
    else
      (f_X0_has r11 27 a1).bind fun x28 =>
      if x28 = 0 then
        (itr (fun s : Int32 × Int32 => f_X6_passed_B42 a1 r11 s.1 s.2) 2000 (0, 0)).bind fun (s42_3, s42_4) =>
        some (s42_3, r11)
      else
        some ((-3), r11)

abbrev rm_X6_passed : Room := { frames := 7, cells := 0, slots := 0, locals := 164 }
set_option maxHeartbeats 2000000 in
set_option maxRecDepth 20000 in
theorem c_X6_passed {Z : ZC} {cm : CM} {mm : MM} {lm : LM} {a1 : Int32} {r : Int32 × CM}  (h : f_X6_passed cm a1 = some r) : Ct Z yX6_passed cX6_passed 5 (some .int) rm_X6_passed [.ref (ad Z 0 0), .int a1] cm mm lm (some (.int r.1)) r.2 mm lm := by
  refine Ct_of (own := RX6) [some (.ref (ad Z 0 0)), some (.int a1), none, none, none] ⟨by decide, rfl⟩ rfl (Nat.le_of_ble_eq_true rfl) rfl (fun X hX hF => ?_)
  have g : G (fun r : Int32 × CM => Fx Z X (some .int) (some (.int r.1)) r.2 mm lm) (f_X6_passed cm a1) (J Z X 5 cm mm lm 0 [some (.ref (ad Z 0 0)), some (.int a1), none, none, none] []) := by
    unfold f_X6_passed
    refine g_aload_n hX dX6_passed_0 rfl rfl ?_
    refine g_iload_n hX dX6_passed_1 rfl rfl ?_
    refine g_callV hX (As := [.int a1]) (fun r => (some (.int r))) (fun _ => cm) (fun _ => mm) (fun _ => lm) (fun r hr => c_X6_isPerson  hr) mi_X6_isPerson ml_6_86 p6_0 e6_0 rfl rfl rfl rfl rfl (Nat.le_of_ble_eq_true rfl) dX6_passed_2 ?_
    intro x2 hx2
    refine g_if_ne hX dX6_passed_5 (fun h5 => ?_) (fun h5 => ?_)
    · refine g_iconst hX dX6_passed_8 ic_m1 ?_
      exact g_iret hX (fun h => h) dX6_passed_9
    · refine g_aload_n hX dX6_passed_10 rfl rfl ?_
      refine g_callV hX (As := []) (fun _ => (some (.ref (ad Z 27 0)))) (fun r => r) (fun _ => mm) (fun _ => lm) (fun r hr => c_X6_presentChoice  hr) mi_X6_presentChoice ml_6_97 p6_0 e6_0 rfl rfl rfl rfl rfl (Nat.le_of_ble_eq_true rfl) dX6_passed_11 ?_
      intro r11 hr11
      refine g_astore_n hX dX6_passed_14 rfl (Nat.le_of_ble_eq_true rfl) rfl ?_
      refine g_aload_n hX dX6_passed_15 rfl rfl ?_
      refine g_get hX fi_6_12 p6_0 e6_0 rfl dX6_passed_16 ?_
      refine g_iload_n hX dX6_passed_19 rfl rfl ?_
      refine g_callV hX (As := [.int a1]) (fun r => (some (.int r))) (fun _ => r11) (fun _ => mm) (fun _ => lm) (fun r hr => c_X3_isActive isOf1 hr) mi_X3_isActive ml_6_191 (okO isOf1 (by decide)) (e3_0 isOf1) rfl rfl rfl rfl rfl (Nat.le_of_ble_eq_true rfl) dX6_passed_20 ?_
      intro x20 hx20
      refine g_if_eq hX dX6_passed_23 (fun h23 => ?_) (fun h23 => ?_)
      · refine g_bipush hX dX6_passed_34 bp_m3 ?_
        exact g_iret hX (fun h => h) dX6_passed_36
      · refine g_aload_n hX dX6_passed_26 rfl rfl ?_
        refine g_iload_n hX dX6_passed_27 rfl rfl ?_
        refine g_callV hX (As := [.int a1]) (fun r => (some (.int r))) (fun _ => r11) (fun _ => mm) (fun _ => lm) (fun r hr => c_X0_has isCh27 hr) mi_X0_has ml_6_200 (okC isCh27 (by decide)) (e0_0 isCh27) rfl rfl rfl rfl rfl (Nat.le_of_ble_eq_true rfl) dX6_passed_28 ?_
        intro x28 hx28
        refine g_if_eq hX dX6_passed_31 (fun h31 => ?_) (fun h31 => ?_)
        · refine g_iconst hX dX6_passed_37 ic_0 ?_
          refine g_istore_n hX dX6_passed_38 rfl (Nat.le_of_ble_eq_true rfl) rfl ?_
          refine g_iconst hX dX6_passed_39 ic_0 ?_
          refine g_istore hX dX6_passed_40 (Nat.le_of_ble_eq_true rfl) rfl ?_
          refine g_loop (Hd := fun s : Int32 × Int32 => J Z X 5 r11 mm lm 42 [some (.ref (ad Z 0 0)), some (.int a1), some (.ref (ad Z 27 0)), some (.int s.1), some (.int s.2)] []) (Ex := fun s : Int32 × Int32 => J Z X 5 r11 mm lm 89 [some (.ref (ad Z 0 0)), some (.int a1), some (.ref (ad Z 27 0)), some (.int s.1), some (.int s.2)] []) ?_ ?_
          · rintro ⟨s42_3, s42_4⟩
            show G _ (f_X6_passed_B42 a1 r11 s42_3 s42_4) (J Z X 5 r11 mm lm 42 [some (.ref (ad Z 0 0)), some (.int a1), some (.ref (ad Z 27 0)), some (.int s42_3), some (.int s42_4)] [])
            unfold f_X6_passed_B42
            refine g_iload hX dX6_passed_42 rfl ?_
            refine g_aload_n hX dX6_passed_44 rfl rfl ?_
            refine g_get hX fi_6_12 p6_0 e6_0 rfl dX6_passed_45 ?_
            refine g_callV hX (As := []) (fun r => (some (.int r))) (fun _ => r11) (fun _ => mm) (fun _ => lm) (fun r hr => c_X3_people isOf1 hr) mi_X3_people ml_6_67 (okO isOf1 (by decide)) (e3_0 isOf1) rfl rfl rfl rfl rfl (Nat.le_of_ble_eq_true rfl) dX6_passed_48 ?_
            intro x48 hx48
            refine g_icmp_ge hX dX6_passed_51 (fun h51 => ?_) (fun h51 => ?_)
            · exact g_wk (lv0 := [some (.ref (ad Z 0 0)), some (.int a1), some (.ref (ad Z 27 0)), some (.int s42_3), some (.int s42_4)]) ⟨rfl, rfl, rfl, rfl, rfl, trivial⟩ (g_end (fun h => h))
            · refine g_aload_n hX dX6_passed_54 rfl rfl ?_
              refine g_iload hX dX6_passed_55 rfl ?_
              refine g_callV hX (As := [.int s42_4]) (fun r => (some (.int r))) (fun _ => r11) (fun _ => mm) (fun _ => lm) (fun r hr => c_X0_has isCh27 hr) mi_X0_has ml_6_200 (okC isCh27 (by decide)) (e0_0 isCh27) rfl rfl rfl rfl rfl (Nat.le_of_ble_eq_true rfl) dX6_passed_57 ?_
              intro x57 hx57
              refine g_if_eq hX dX6_passed_60 (fun h60 => ?_) (fun h60 => ?_)
              · refine g_iinc hX dX6_passed_83 ic_1 rfl (Nat.le_of_ble_eq_true rfl) rfl ?_
                refine g_goto hX dX6_passed_86 ?_
                exact g_wk (lv0 := [some (.ref (ad Z 0 0)), some (.int a1), some (.ref (ad Z 27 0)), some (.int s42_3), some (.int (s42_4 + 1))]) ⟨rfl, rfl, rfl, rfl, rfl, trivial⟩ (g_end (fun h => h))
              · refine g_aload_n hX dX6_passed_63 rfl rfl ?_
                refine g_get hX fi_6_12 p6_0 e6_0 rfl dX6_passed_64 ?_
                refine g_iload_n hX dX6_passed_67 rfl rfl ?_
                refine g_iload hX dX6_passed_68 rfl ?_
                refine g_callV hX (As := [.int a1, .int s42_4]) (fun r => (some (.int r))) (fun _ => r11) (fun _ => mm) (fun _ => lm) (fun r hr => c_X3_isAhead isOf1 hr) mi_X3_isAhead ml_6_203 (okO isOf1 (by decide)) (e3_0 isOf1) rfl rfl rfl rfl rfl (Nat.le_of_ble_eq_true rfl) dX6_passed_70 ?_
                intro x70 hx70
                refine g_if_eq hX dX6_passed_73 (fun h73 => ?_) (fun h73 => ?_)
                · refine g_iinc hX dX6_passed_83 ic_1 rfl (Nat.le_of_ble_eq_true rfl) rfl ?_
                  refine g_goto hX dX6_passed_86 ?_
                  exact g_wk (lv0 := [some (.ref (ad Z 0 0)), some (.int a1), some (.ref (ad Z 27 0)), some (.int s42_3), some (.int (s42_4 + 1))]) ⟨rfl, rfl, rfl, rfl, rfl, trivial⟩ (g_end (fun h => h))
                · refine g_iload_n hX dX6_passed_76 rfl rfl ?_
                  refine g_iconst hX dX6_passed_77 ic_1 ?_
                  refine g_iload hX dX6_passed_78 rfl ?_
                  refine g_ishl hX dX6_passed_80 ?_
                  refine g_ior hX dX6_passed_81 ?_
                  refine g_istore_n hX dX6_passed_82 rfl (Nat.le_of_ble_eq_true rfl) rfl ?_
                  refine g_iinc hX dX6_passed_83 ic_1 rfl (Nat.le_of_ble_eq_true rfl) rfl ?_
                  refine g_goto hX dX6_passed_86 ?_
                  exact g_wk (lv0 := [some (.ref (ad Z 0 0)), some (.int a1), some (.ref (ad Z 27 0)), some (.int (s42_3 ||| (1 <<< (s42_4 &&& 31)))), some (.int (s42_4 + 1))]) ⟨rfl, rfl, rfl, rfl, rfl, trivial⟩ (g_end (fun h => h))
          · rintro ⟨s42_3, s42_4⟩
            show G _ _ (J Z X 5 r11 mm lm 89 [some (.ref (ad Z 0 0)), some (.int a1), some (.ref (ad Z 27 0)), some (.int s42_3), some (.int s42_4)] [])
            refine g_iload_n hX dX6_passed_89 rfl rfl ?_
            exact g_iret hX (fun h => h) dX6_passed_90
        · refine g_bipush hX dX6_passed_34 bp_m3 ?_
          exact g_iret hX (fun h => h) dX6_passed_36
  exact g r h hF

def f_X6_placeOfGap_B23 (cm : CM) (s2_2 : Int32) (x13 : Int32) (s23_4 : Int32) (s23_5 : Int32) : Option ((Int32 × Int32) ⊕ (Int32 × Int32)) :=
  if 16 ≤ s23_5 then
    some (.inl (s23_4, s23_5))
  else
    (f_X4_get cm 31 0 16 s23_5).bind fun x36 =>
    if x36 < x13 then
      some (.inr (s23_4 + 1, s23_5 + 1))
    else
      if x36 = x13 then
        if s2_2 ≤ s23_5 then
          some (.inr (s23_4, s23_5 + 1))
        else
          some (.inr (s23_4 + 1, s23_5 + 1))
      else
        some (.inr (s23_4, s23_5 + 1))

def f_X6_placeOfGap_B2 (cm : CM) (a1 : Int32) (s2_2 : Int32) : Option (((Int32) ⊕ (Int32)) ⊕ (Int32)) :=
  if 16 ≤ s2_2 then
    some (.inl (.inl s2_2))
  else
    (f_X4_get cm 31 0 16 s2_2).bind fun x13 =>
    (itr (fun s : Int32 × Int32 => f_X6_placeOfGap_B23 cm s2_2 x13 s.1 s.2) 2000 (0, 0)).bind fun (s23_4, s23_5) =>
    if x13 = 1000 then
      some (.inr (s2_2 + 1))
    else
      if s23_4 = a1 then
        some (.inl (.inr s2_2))
      else
        some (.inr (s2_2 + 1))

def f_X6_placeOfGap (cm : CM) (a1 : Int32) : Option (Int32) :=
  (itr (fun s : Int32 => f_X6_placeOfGap_B2 cm a1 s) 2000 0).bind fun ou => match ou with
  | .inr r => some r
  | .inl s2_2 =>
  some (-9)

abbrev rm_X6_placeOfGap : Room := { frames := 1, cells := 0, slots := 0, locals := 21 }
set_option maxHeartbeats 2000000 in
set_option maxRecDepth 20000 in
theorem c_X6_placeOfGap {Z : ZC} {cm : CM} {mm : MM} {lm : LM} {a1 : Int32} {r : Int32}  (h : f_X6_placeOfGap cm a1 = some r) : Ct Z yX6_placeOfGap cX6_placeOfGap 7 (some .int) rm_X6_placeOfGap [.ref (ad Z 0 0), .int a1] cm mm lm (some (.int r)) cm mm lm := by
  refine Ct_of (own := RX6) [some (.ref (ad Z 0 0)), some (.int a1), none, none, none, none, none] ⟨by decide, rfl⟩ rfl (Nat.le_of_ble_eq_true rfl) rfl (fun X hX hF => ?_)
  have g : G (fun r : Int32 => Fx Z X (some .int) (some (.int r)) cm mm lm) (f_X6_placeOfGap cm a1) (J Z X 7 cm mm lm 0 [some (.ref (ad Z 0 0)), some (.int a1), none, none, none, none, none] []) := by
    unfold f_X6_placeOfGap
    refine g_iconst hX dX6_placeOfGap_0 ic_0 ?_
    refine g_istore_n hX dX6_placeOfGap_1 rfl (Nat.le_of_ble_eq_true rfl) rfl ?_
    refine g_loop (Hd := fun s : Int32 => J Z X 7 cm mm lm 2 [some (.ref (ad Z 0 0)), some (.int a1), some (.int s), none, none, none, none] []) (Ex := fun ou : (Int32) ⊕ (Int32) => match ou with | .inl e => J Z X 7 cm mm lm 89 [some (.ref (ad Z 0 0)), some (.int a1), some (.int e), none, none, none, none] [] | .inr r => Fx Z X (some .int) (some (.int r)) cm mm lm) ?_ ?_
    · intro s2_2
      show G _ (f_X6_placeOfGap_B2 cm a1 s2_2) (J Z X 7 cm mm lm 2 [some (.ref (ad Z 0 0)), some (.int a1), some (.int s2_2), none, none, none, none] [])
      unfold f_X6_placeOfGap_B2
      refine g_iload_n hX dX6_placeOfGap_2 rfl rfl ?_
      refine g_bipush hX dX6_placeOfGap_3 bp_16 ?_
      refine g_icmp_ge hX dX6_placeOfGap_5 (fun h5 => ?_) (fun h5 => ?_)
      · exact g_wk (lv0 := [some (.ref (ad Z 0 0)), some (.int a1), some (.int s2_2), none, none, none, none]) ⟨rfl, rfl, rfl, trivial⟩ (g_end (fun h => h))
      · refine g_aload_n hX dX6_placeOfGap_8 rfl rfl ?_
        refine g_get hX fi_6_48 p6_0 e6_0 rfl dX6_placeOfGap_9 ?_
        refine g_iload_n hX dX6_placeOfGap_12 rfl rfl ?_
        refine g_callV hX (As := [.int s2_2]) (fun r => (some (.int r))) (fun _ => cm) (fun _ => mm) (fun _ => lm) (fun r hr => c_X4_get rw4_0 hr) mi_X4_get ml_6_232 rw4_0.1 (eR_0 rw4_0) rfl rfl rfl rfl rfl (Nat.le_of_ble_eq_true rfl) dX6_placeOfGap_13 ?_
        intro x13 hx13
        refine g_istore_n hX dX6_placeOfGap_16 rfl (Nat.le_of_ble_eq_true rfl) rfl ?_
        refine g_iconst hX dX6_placeOfGap_17 ic_0 ?_
        refine g_istore hX dX6_placeOfGap_18 (Nat.le_of_ble_eq_true rfl) rfl ?_
        refine g_iconst hX dX6_placeOfGap_20 ic_0 ?_
        refine g_istore hX dX6_placeOfGap_21 (Nat.le_of_ble_eq_true rfl) rfl ?_
        refine g_loop (Hd := fun s : Int32 × Int32 => J Z X 7 cm mm lm 23 [some (.ref (ad Z 0 0)), some (.int a1), some (.int s2_2), some (.int x13), some (.int s.1), some (.int s.2), none] []) (Ex := fun s : Int32 × Int32 => J Z X 7 cm mm lm 68 [some (.ref (ad Z 0 0)), some (.int a1), some (.int s2_2), some (.int x13), some (.int s.1), some (.int s.2), none] []) ?_ ?_
        · rintro ⟨s23_4, s23_5⟩
          show G _ (f_X6_placeOfGap_B23 cm s2_2 x13 s23_4 s23_5) (J Z X 7 cm mm lm 23 [some (.ref (ad Z 0 0)), some (.int a1), some (.int s2_2), some (.int x13), some (.int s23_4), some (.int s23_5), none] [])
          unfold f_X6_placeOfGap_B23
          refine g_iload hX dX6_placeOfGap_23 rfl ?_
          refine g_bipush hX dX6_placeOfGap_25 bp_16 ?_
          refine g_icmp_ge hX dX6_placeOfGap_27 (fun h27 => ?_) (fun h27 => ?_)
          · exact g_wk (lv0 := [some (.ref (ad Z 0 0)), some (.int a1), some (.int s2_2), some (.int x13), some (.int s23_4), some (.int s23_5), none]) ⟨rfl, rfl, rfl, rfl, rfl, rfl, trivial⟩ (g_end (fun h => h))
          · refine g_aload_n hX dX6_placeOfGap_30 rfl rfl ?_
            refine g_get hX fi_6_48 p6_0 e6_0 rfl dX6_placeOfGap_31 ?_
            refine g_iload hX dX6_placeOfGap_34 rfl ?_
            refine g_callV hX (As := [.int s23_5]) (fun r => (some (.int r))) (fun _ => cm) (fun _ => mm) (fun _ => lm) (fun r hr => c_X4_get rw4_0 hr) mi_X4_get ml_6_232 rw4_0.1 (eR_0 rw4_0) rfl rfl rfl rfl rfl (Nat.le_of_ble_eq_true rfl) dX6_placeOfGap_36 ?_
            intro x36 hx36
            refine g_istore hX dX6_placeOfGap_39 (Nat.le_of_ble_eq_true rfl) rfl ?_
            refine g_iload hX dX6_placeOfGap_41 rfl ?_
            refine g_iload_n hX dX6_placeOfGap_43 rfl rfl ?_
            refine g_icmp_lt hX dX6_placeOfGap_44 (fun h44 => ?_) (fun h44 => ?_)
            · refine g_iinc hX dX6_placeOfGap_59 ic_1 rfl (Nat.le_of_ble_eq_true rfl) rfl ?_
              refine g_iinc hX dX6_placeOfGap_62 ic_1 rfl (Nat.le_of_ble_eq_true rfl) rfl ?_
              refine g_goto hX dX6_placeOfGap_65 ?_
              exact g_wk (lv0 := [some (.ref (ad Z 0 0)), some (.int a1), some (.int s2_2), some (.int x13), some (.int (s23_4 + 1)), some (.int (s23_5 + 1)), none]) ⟨rfl, rfl, rfl, rfl, rfl, rfl, trivial⟩ (g_end (fun h => h))
            · refine g_iload hX dX6_placeOfGap_47 rfl ?_
              refine g_iload_n hX dX6_placeOfGap_49 rfl rfl ?_
              refine g_icmp_ne hX dX6_placeOfGap_50 (fun h50 => ?_) (fun h50 => ?_)
              · refine g_iload hX dX6_placeOfGap_53 rfl ?_
                refine g_iload_n hX dX6_placeOfGap_55 rfl rfl ?_
                refine g_icmp_ge hX dX6_placeOfGap_56 (fun h56 => ?_) (fun h56 => ?_)
                · refine g_iinc hX dX6_placeOfGap_62 ic_1 rfl (Nat.le_of_ble_eq_true rfl) rfl ?_
                  refine g_goto hX dX6_placeOfGap_65 ?_
                  exact g_wk (lv0 := [some (.ref (ad Z 0 0)), some (.int a1), some (.int s2_2), some (.int x13), some (.int s23_4), some (.int (s23_5 + 1)), none]) ⟨rfl, rfl, rfl, rfl, rfl, rfl, trivial⟩ (g_end (fun h => h))
                · refine g_iinc hX dX6_placeOfGap_59 ic_1 rfl (Nat.le_of_ble_eq_true rfl) rfl ?_
                  refine g_iinc hX dX6_placeOfGap_62 ic_1 rfl (Nat.le_of_ble_eq_true rfl) rfl ?_
                  refine g_goto hX dX6_placeOfGap_65 ?_
                  exact g_wk (lv0 := [some (.ref (ad Z 0 0)), some (.int a1), some (.int s2_2), some (.int x13), some (.int (s23_4 + 1)), some (.int (s23_5 + 1)), none]) ⟨rfl, rfl, rfl, rfl, rfl, rfl, trivial⟩ (g_end (fun h => h))
              · refine g_iinc hX dX6_placeOfGap_62 ic_1 rfl (Nat.le_of_ble_eq_true rfl) rfl ?_
                refine g_goto hX dX6_placeOfGap_65 ?_
                exact g_wk (lv0 := [some (.ref (ad Z 0 0)), some (.int a1), some (.int s2_2), some (.int x13), some (.int s23_4), some (.int (s23_5 + 1)), none]) ⟨rfl, rfl, rfl, rfl, rfl, rfl, trivial⟩ (g_end (fun h => h))
        · rintro ⟨s23_4, s23_5⟩
          show G _ _ (J Z X 7 cm mm lm 68 [some (.ref (ad Z 0 0)), some (.int a1), some (.int s2_2), some (.int x13), some (.int s23_4), some (.int s23_5), none] [])
          refine g_iload_n hX dX6_placeOfGap_68 rfl rfl ?_
          refine g_sipush hX dX6_placeOfGap_69 sp_1000 ?_
          refine g_icmp_eq hX dX6_placeOfGap_72 (fun h72 => ?_) (fun h72 => ?_)
          · refine g_iinc hX dX6_placeOfGap_83 ic_1 rfl (Nat.le_of_ble_eq_true rfl) rfl ?_
            refine g_goto hX dX6_placeOfGap_86 ?_
            exact g_wk (lv0 := [some (.ref (ad Z 0 0)), some (.int a1), some (.int (s2_2 + 1)), none, none, none, none]) ⟨rfl, rfl, rfl, trivial⟩ (g_end (fun h => h))
          · refine g_iload hX dX6_placeOfGap_75 rfl ?_
            refine g_iload_n hX dX6_placeOfGap_77 rfl rfl ?_
            refine g_icmp_ne hX dX6_placeOfGap_78 (fun h78 => ?_) (fun h78 => ?_)
            · refine g_iload_n hX dX6_placeOfGap_81 rfl rfl ?_
              exact g_iret hX (fun h => h) dX6_placeOfGap_82
            · refine g_iinc hX dX6_placeOfGap_83 ic_1 rfl (Nat.le_of_ble_eq_true rfl) rfl ?_
              refine g_goto hX dX6_placeOfGap_86 ?_
              exact g_wk (lv0 := [some (.ref (ad Z 0 0)), some (.int a1), some (.int (s2_2 + 1)), none, none, none, none]) ⟨rfl, rfl, rfl, trivial⟩ (g_end (fun h => h))
    · rintro (s2_2 | r)
      · show G _ _ (J Z X 7 cm mm lm 89 [some (.ref (ad Z 0 0)), some (.int a1), some (.int s2_2), none, none, none, none] [])
        refine g_bipush hX dX6_placeOfGap_89 bp_m9 ?_
        exact g_iret hX (fun h => h) dX6_placeOfGap_91
      · exact g_end (fun h => h)
  exact g r h hF

def f_X6_nearest_B29 (s29_3 : Int32) (c29_ : CM) : Option ((Int32 × CM) ⊕ (Int32 × CM)) :=
  (f_X3_people c29_ 1).bind fun x34 =>
  if x34 ≤ s29_3 then
    some (.inl (s29_3, c29_))
  else
    (f_X0_personAt c29_ 27 s29_3).bind fun x42 =>
    (f_X3_isActive c29_ 1 x42).bind fun x53 =>
    if x53 = 0 then
      some (.inr (s29_3 + 1, c29_))
    else
      (f_X0_has c29_ 27 x42).bind fun x62 =>
      if x62 = 0 then
        (f_X6_leastMark c29_ x42).bind fun r71 =>
        ((if r71.1 = (-9) then
            some 1000
          else
            (f_X3_get r71.2 1 0 x42).bind fun x103 =>
            some (r71.1 - x103)) : Option (Int32)).bind fun k107_0 =>
        (f_X4_set r71.2 31 0 16 s29_3 k107_0).bind fun r107 =>
        some (.inr (s29_3 + 1, r107))
      else
        some (.inr (s29_3 + 1, c29_))

def f_X6_nearest (cm : CM) (a1 : Int32) : Option (Int32 × CM) :=
  (f_X6_isWithin a1 15).bind fun x3 =>
  if x3 = 0 then
    some ((-2), cm)
  else
    (f_X6_presentChoice cm).bind fun r13 =>
    (f_X4_fill r13 31 0 16 1000).bind fun r24 =>
    (itr (fun s : Int32 × CM => f_X6_nearest_B29 s.1 s.2) 2000 (0, r24)).bind fun (s29_3, c29_) =>
    (f_X6_placeOfGap c29_ a1).bind fun x118 =>
    if x118 = (-9) then
      some ((-9), c29_)
    else
      (f_X0_personAt c29_ 27 x118).bind fun x135 =>
      some (x135, c29_)

abbrev rm_X6_nearest : Room := { frames := 7, cells := 0, slots := 0, locals := 168 }
set_option maxHeartbeats 2000000 in
set_option maxRecDepth 20000 in
theorem c_X6_nearest {Z : ZC} {cm : CM} {mm : MM} {lm : LM} {a1 : Int32} {r : Int32 × CM}  (h : f_X6_nearest cm a1 = some r) : Ct Z yX6_nearest cX6_nearest 6 (some .int) rm_X6_nearest [.ref (ad Z 0 0), .int a1] cm mm lm (some (.int r.1)) r.2 mm lm := by
  refine Ct_of (own := RX6) [some (.ref (ad Z 0 0)), some (.int a1), none, none, none, none] ⟨by decide, rfl⟩ rfl (Nat.le_of_ble_eq_true rfl) rfl (fun X hX hF => ?_)
  have g : G (fun r : Int32 × CM => Fx Z X (some .int) (some (.int r.1)) r.2 mm lm) (f_X6_nearest cm a1) (J Z X 6 cm mm lm 0 [some (.ref (ad Z 0 0)), some (.int a1), none, none, none, none] []) := by
    unfold f_X6_nearest
    refine g_iload_n hX dX6_nearest_0 rfl rfl ?_
    refine g_bipush hX dX6_nearest_1 bp_15 ?_
    refine g_callS hX (As := [.int a1, .int 15]) (fun r => (some (.int r))) (fun _ => cm) (fun _ => mm) (fun _ => lm) (fun r hr => c_X6_isWithin  hr) mi_X6_isWithin ml_6_56 rfl rfl rfl (Nat.le_of_ble_eq_true rfl) dX6_nearest_3 ?_
    intro x3 hx3
    refine g_if_ne hX dX6_nearest_6 (fun h6 => ?_) (fun h6 => ?_)
    · refine g_bipush hX dX6_nearest_9 bp_m2 ?_
      exact g_iret hX (fun h => h) dX6_nearest_11
    · refine g_aload_n hX dX6_nearest_12 rfl rfl ?_
      refine g_callV hX (As := []) (fun _ => (some (.ref (ad Z 27 0)))) (fun r => r) (fun _ => mm) (fun _ => lm) (fun r hr => c_X6_presentChoice  hr) mi_X6_presentChoice ml_6_97 p6_0 e6_0 rfl rfl rfl rfl rfl (Nat.le_of_ble_eq_true rfl) dX6_nearest_13 ?_
      intro r13 hr13
      refine g_astore_n hX dX6_nearest_16 rfl (Nat.le_of_ble_eq_true rfl) rfl ?_
      refine g_aload_n hX dX6_nearest_17 rfl rfl ?_
      refine g_get hX fi_6_48 p6_0 e6_0 rfl dX6_nearest_18 ?_
      refine g_sipush hX dX6_nearest_21 sp_1000 ?_
      refine g_callV hX (As := [.int 1000]) (fun _ => none) (fun r => r) (fun _ => mm) (fun _ => lm) (fun r hr => c_X4_fill rw4_0 hr) mi_X4_fill ml_6_206 rw4_0.1 (eR_0 rw4_0) rfl rfl rfl rfl rfl (Nat.le_of_ble_eq_true rfl) dX6_nearest_24 ?_
      intro r24 hr24
      refine g_iconst hX dX6_nearest_27 ic_0 ?_
      refine g_istore_n hX dX6_nearest_28 rfl (Nat.le_of_ble_eq_true rfl) rfl ?_
      refine g_loop (Hd := fun s : Int32 × CM => J Z X 6 s.2 mm lm 29 [some (.ref (ad Z 0 0)), some (.int a1), some (.ref (ad Z 27 0)), some (.int s.1), none, none] []) (Ex := fun s : Int32 × CM => J Z X 6 s.2 mm lm 116 [some (.ref (ad Z 0 0)), some (.int a1), some (.ref (ad Z 27 0)), some (.int s.1), none, none] []) ?_ ?_
      · rintro ⟨s29_3, c29_⟩
        show G _ (f_X6_nearest_B29 s29_3 c29_) (J Z X 6 c29_ mm lm 29 [some (.ref (ad Z 0 0)), some (.int a1), some (.ref (ad Z 27 0)), some (.int s29_3), none, none] [])
        unfold f_X6_nearest_B29
        refine g_iload_n hX dX6_nearest_29 rfl rfl ?_
        refine g_aload_n hX dX6_nearest_30 rfl rfl ?_
        refine g_get hX fi_6_12 p6_0 e6_0 rfl dX6_nearest_31 ?_
        refine g_callV hX (As := []) (fun r => (some (.int r))) (fun _ => c29_) (fun _ => mm) (fun _ => lm) (fun r hr => c_X3_people isOf1 hr) mi_X3_people ml_6_67 (okO isOf1 (by decide)) (e3_0 isOf1) rfl rfl rfl rfl rfl (Nat.le_of_ble_eq_true rfl) dX6_nearest_34 ?_
        intro x34 hx34
        refine g_icmp_ge hX dX6_nearest_37 (fun h37 => ?_) (fun h37 => ?_)
        · exact g_wk (lv0 := [some (.ref (ad Z 0 0)), some (.int a1), some (.ref (ad Z 27 0)), some (.int s29_3), none, none]) ⟨rfl, rfl, rfl, rfl, trivial⟩ (g_end (fun h => h))
        · refine g_aload_n hX dX6_nearest_40 rfl rfl ?_
          refine g_iload_n hX dX6_nearest_41 rfl rfl ?_
          refine g_callV hX (As := [.int s29_3]) (fun r => (some (.int r))) (fun _ => c29_) (fun _ => mm) (fun _ => lm) (fun r hr => c_X0_personAt isCh27 hr) mi_X0_personAt ml_6_101 (okC isCh27 (by decide)) (e0_0 isCh27) rfl rfl rfl rfl rfl (Nat.le_of_ble_eq_true rfl) dX6_nearest_42 ?_
          intro x42 hx42
          refine g_istore hX dX6_nearest_45 (Nat.le_of_ble_eq_true rfl) rfl ?_
          refine g_aload_n hX dX6_nearest_47 rfl rfl ?_
          refine g_get hX fi_6_12 p6_0 e6_0 rfl dX6_nearest_48 ?_
          refine g_iload hX dX6_nearest_51 rfl ?_
          refine g_callV hX (As := [.int x42]) (fun r => (some (.int r))) (fun _ => c29_) (fun _ => mm) (fun _ => lm) (fun r hr => c_X3_isActive isOf1 hr) mi_X3_isActive ml_6_191 (okO isOf1 (by decide)) (e3_0 isOf1) rfl rfl rfl rfl rfl (Nat.le_of_ble_eq_true rfl) dX6_nearest_53 ?_
          intro x53 hx53
          refine g_if_eq hX dX6_nearest_56 (fun h56 => ?_) (fun h56 => ?_)
          · refine g_iinc hX dX6_nearest_110 ic_1 rfl (Nat.le_of_ble_eq_true rfl) rfl ?_
            refine g_goto hX dX6_nearest_113 ?_
            exact g_wk (lv0 := [some (.ref (ad Z 0 0)), some (.int a1), some (.ref (ad Z 27 0)), some (.int (s29_3 + 1)), none, none]) ⟨rfl, rfl, rfl, rfl, trivial⟩ (g_end (fun h => h))
          · refine g_aload_n hX dX6_nearest_59 rfl rfl ?_
            refine g_iload hX dX6_nearest_60 rfl ?_
            refine g_callV hX (As := [.int x42]) (fun r => (some (.int r))) (fun _ => c29_) (fun _ => mm) (fun _ => lm) (fun r hr => c_X0_has isCh27 hr) mi_X0_has ml_6_200 (okC isCh27 (by decide)) (e0_0 isCh27) rfl rfl rfl rfl rfl (Nat.le_of_ble_eq_true rfl) dX6_nearest_62 ?_
            intro x62 hx62
            refine g_if_ne hX dX6_nearest_65 (fun h65 => ?_) (fun h65 => ?_)
            · refine g_aload_n hX dX6_nearest_68 rfl rfl ?_
              refine g_iload hX dX6_nearest_69 rfl ?_
              refine g_callV hX (As := [.int x42]) (fun r => (some (.int r.1))) (fun r => r.2) (fun _ => mm) (fun _ => lm) (fun r hr => c_X6_leastMark  hr) mi_X6_leastMark ml_6_194 p6_0 e6_0 rfl rfl rfl rfl rfl (Nat.le_of_ble_eq_true rfl) dX6_nearest_71 ?_
              intro r71 hr71
              refine g_istore hX dX6_nearest_74 (Nat.le_of_ble_eq_true rfl) rfl ?_
              refine g_aload_n hX dX6_nearest_76 rfl rfl ?_
              refine g_get hX fi_6_48 p6_0 e6_0 rfl dX6_nearest_77 ?_
              refine g_iload_n hX dX6_nearest_80 rfl rfl ?_
              refine g_iload hX dX6_nearest_81 rfl ?_
              refine g_bipush hX dX6_nearest_83 bp_m9 ?_
              refine g_bind (fun v : Int32 => J Z X 6 r71.2 mm lm 107 [some (.ref (ad Z 0 0)), some (.int a1), some (.ref (ad Z 27 0)), some (.int s29_3), some (.int x42), some (.int r71.1)] [.int v, .int s29_3, .ref (ad Z 31 0)]) ?_ ?_
              · refine g_icmp_ne hX dX6_nearest_85 (fun h85 => ?_) (fun h85 => ?_)
                · refine g_sipush hX dX6_nearest_88 sp_1000 ?_
                  refine g_goto hX dX6_nearest_91 ?_
                  exact g_wk (lv0 := [some (.ref (ad Z 0 0)), some (.int a1), some (.ref (ad Z 27 0)), some (.int s29_3), some (.int x42), some (.int r71.1)]) ⟨rfl, rfl, rfl, rfl, rfl, rfl, trivial⟩ (g_end (fun h => h))
                · refine g_iload hX dX6_nearest_94 rfl ?_
                  refine g_aload_n hX dX6_nearest_96 rfl rfl ?_
                  refine g_get hX fi_6_12 p6_0 e6_0 rfl dX6_nearest_97 ?_
                  refine g_iconst hX dX6_nearest_100 ic_0 ?_
                  refine g_iload hX dX6_nearest_101 rfl ?_
                  refine g_callV hX (As := [.int 0, .int x42]) (fun r => (some (.int r))) (fun _ => r71.2) (fun _ => mm) (fun _ => lm) (fun r hr => c_X3_get isOf1 hr) mi_X3_get ml_6_89 (okO isOf1 (by decide)) (e3_0 isOf1) rfl rfl rfl rfl rfl (Nat.le_of_ble_eq_true rfl) dX6_nearest_103 ?_
                  intro x103 hx103
                  refine g_isub hX dX6_nearest_106 ?_
                  exact g_wk (lv0 := [some (.ref (ad Z 0 0)), some (.int a1), some (.ref (ad Z 27 0)), some (.int s29_3), some (.int x42), some (.int r71.1)]) ⟨rfl, rfl, rfl, rfl, rfl, rfl, trivial⟩ (g_end (fun h => h))
              · intro k107_0
                show G _ _ (J Z X 6 r71.2 mm lm 107 [some (.ref (ad Z 0 0)), some (.int a1), some (.ref (ad Z 27 0)), some (.int s29_3), some (.int x42), some (.int r71.1)] [.int k107_0, .int s29_3, .ref (ad Z 31 0)])
                refine g_callV hX (As := [.int s29_3, .int k107_0]) (fun _ => none) (fun r => r) (fun _ => mm) (fun _ => lm) (fun r hr => c_X4_set rw4_0 hr) mi_X4_set ml_6_209 rw4_0.1 (eR_0 rw4_0) rfl rfl rfl rfl rfl (Nat.le_of_ble_eq_true rfl) dX6_nearest_107 ?_
                intro r107 hr107
                refine g_iinc hX dX6_nearest_110 ic_1 rfl (Nat.le_of_ble_eq_true rfl) rfl ?_
                refine g_goto hX dX6_nearest_113 ?_
                exact g_wk (lv0 := [some (.ref (ad Z 0 0)), some (.int a1), some (.ref (ad Z 27 0)), some (.int (s29_3 + 1)), none, none]) ⟨rfl, rfl, rfl, rfl, trivial⟩ (g_end (fun h => h))
            · refine g_iinc hX dX6_nearest_110 ic_1 rfl (Nat.le_of_ble_eq_true rfl) rfl ?_
              refine g_goto hX dX6_nearest_113 ?_
              exact g_wk (lv0 := [some (.ref (ad Z 0 0)), some (.int a1), some (.ref (ad Z 27 0)), some (.int (s29_3 + 1)), none, none]) ⟨rfl, rfl, rfl, rfl, trivial⟩ (g_end (fun h => h))
      · rintro ⟨s29_3, c29_⟩
        show G _ _ (J Z X 6 c29_ mm lm 116 [some (.ref (ad Z 0 0)), some (.int a1), some (.ref (ad Z 27 0)), some (.int s29_3), none, none] [])
        refine g_aload_n hX dX6_nearest_116 rfl rfl ?_
        refine g_iload_n hX dX6_nearest_117 rfl rfl ?_
        refine g_callV hX (As := [.int a1]) (fun r => (some (.int r))) (fun _ => c29_) (fun _ => mm) (fun _ => lm) (fun r hr => c_X6_placeOfGap  hr) mi_X6_placeOfGap ml_6_211 p6_0 e6_0 rfl rfl rfl rfl rfl (Nat.le_of_ble_eq_true rfl) dX6_nearest_118 ?_
        intro x118 hx118
        refine g_istore_n hX dX6_nearest_121 rfl (Nat.le_of_ble_eq_true rfl) rfl ?_
        refine g_iload_n hX dX6_nearest_122 rfl rfl ?_
        refine g_bipush hX dX6_nearest_123 bp_m9 ?_
        refine g_icmp_ne hX dX6_nearest_125 (fun h125 => ?_) (fun h125 => ?_)
        · refine g_bipush hX dX6_nearest_128 bp_m9 ?_
          refine g_goto hX dX6_nearest_130 ?_
          exact g_iret hX (fun h => h) dX6_nearest_138
        · refine g_aload_n hX dX6_nearest_133 rfl rfl ?_
          refine g_iload_n hX dX6_nearest_134 rfl rfl ?_
          refine g_callV hX (As := [.int x118]) (fun r => (some (.int r))) (fun _ => c29_) (fun _ => mm) (fun _ => lm) (fun r hr => c_X0_personAt isCh27 hr) mi_X0_personAt ml_6_101 (okC isCh27 (by decide)) (e0_0 isCh27) rfl rfl rfl rfl rfl (Nat.le_of_ble_eq_true rfl) dX6_nearest_135 ?_
          intro x135 hx135
          exact g_iret hX (fun h => h) dX6_nearest_138
  exact g r h hF

def f_X6_envy_B9 (s9_2 : Int32) (s9_3 : Int32) (c9_ : CM) : Option ((Int32 × Int32 × CM) ⊕ (Int32 × Int32 × CM)) :=
  if 4 ≤ s9_3 then
    some (.inl (s9_2, s9_3, c9_))
  else
    (f_X0_countEnvy c9_ 27 1 s9_3).bind fun r21 =>
    some (.inr (s9_2 + r21.1, s9_3 + 1, r21.2))

def f_X6_envy (cm : CM) : Option (Int32 × CM) :=
  (f_X6_presentChoice cm).bind fun r1 =>
  (itr (fun s : Int32 × Int32 × CM => f_X6_envy_B9 s.1 s.2.1 s.2.2) 2000 (0, 0, r1)).bind fun (s9_2, s9_3, c9_) =>
  some (s9_2, c9_)

abbrev rm_X6_envy : Room := { frames := 7, cells := 0, slots := 0, locals := 164 }
set_option maxHeartbeats 2000000 in
set_option maxRecDepth 20000 in
theorem c_X6_envy {Z : ZC} {cm : CM} {mm : MM} {lm : LM} {r : Int32 × CM}  (h : f_X6_envy cm = some r) : Ct Z yX6_envy cX6_envy 4 (some .int) rm_X6_envy [.ref (ad Z 0 0)] cm mm lm (some (.int r.1)) r.2 mm lm := by
  refine Ct_of (own := RX6) [some (.ref (ad Z 0 0)), none, none, none] ⟨by decide, rfl⟩ rfl (Nat.le_of_ble_eq_true rfl) rfl (fun X hX hF => ?_)
  have g : G (fun r : Int32 × CM => Fx Z X (some .int) (some (.int r.1)) r.2 mm lm) (f_X6_envy cm) (J Z X 4 cm mm lm 0 [some (.ref (ad Z 0 0)), none, none, none] []) := by
    unfold f_X6_envy
    refine g_aload_n hX dX6_envy_0 rfl rfl ?_
    refine g_callV hX (As := []) (fun _ => (some (.ref (ad Z 27 0)))) (fun r => r) (fun _ => mm) (fun _ => lm) (fun r hr => c_X6_presentChoice  hr) mi_X6_presentChoice ml_6_97 p6_0 e6_0 rfl rfl rfl rfl rfl (Nat.le_of_ble_eq_true rfl) dX6_envy_1 ?_
    intro r1 hr1
    refine g_astore_n hX dX6_envy_4 rfl (Nat.le_of_ble_eq_true rfl) rfl ?_
    refine g_iconst hX dX6_envy_5 ic_0 ?_
    refine g_istore_n hX dX6_envy_6 rfl (Nat.le_of_ble_eq_true rfl) rfl ?_
    refine g_iconst hX dX6_envy_7 ic_0 ?_
    refine g_istore_n hX dX6_envy_8 rfl (Nat.le_of_ble_eq_true rfl) rfl ?_
    refine g_loop (Hd := fun s : Int32 × Int32 × CM => J Z X 4 s.2.2 mm lm 9 [some (.ref (ad Z 0 0)), some (.ref (ad Z 27 0)), some (.int s.1), some (.int s.2.1)] []) (Ex := fun s : Int32 × Int32 × CM => J Z X 4 s.2.2 mm lm 32 [some (.ref (ad Z 0 0)), some (.ref (ad Z 27 0)), some (.int s.1), some (.int s.2.1)] []) ?_ ?_
    · rintro ⟨s9_2, s9_3, c9_⟩
      show G _ (f_X6_envy_B9 s9_2 s9_3 c9_) (J Z X 4 c9_ mm lm 9 [some (.ref (ad Z 0 0)), some (.ref (ad Z 27 0)), some (.int s9_2), some (.int s9_3)] [])
      unfold f_X6_envy_B9
      refine g_iload_n hX dX6_envy_9 rfl rfl ?_
      refine g_iconst hX dX6_envy_10 ic_4 ?_
      refine g_icmp_ge hX dX6_envy_11 (fun h11 => ?_) (fun h11 => ?_)
      · exact g_wk (lv0 := [some (.ref (ad Z 0 0)), some (.ref (ad Z 27 0)), some (.int s9_2), some (.int s9_3)]) ⟨rfl, rfl, rfl, rfl, trivial⟩ (g_end (fun h => h))
      · refine g_iload_n hX dX6_envy_14 rfl rfl ?_
        refine g_aload_n hX dX6_envy_15 rfl rfl ?_
        refine g_aload_n hX dX6_envy_16 rfl rfl ?_
        refine g_get hX fi_6_12 p6_0 e6_0 rfl dX6_envy_17 ?_
        refine g_iload_n hX dX6_envy_20 rfl rfl ?_
        refine g_callV hX (As := [.ref (ad Z 1 0), .int s9_3]) (fun r => (some (.int r.1))) (fun r => r.2) (fun _ => mm) (fun _ => lm) (fun r hr => c_X0_countEnvy isCh27 isOf1 hr) mi_X0_countEnvy ml_6_214 (okC isCh27 (by decide)) (e0_0 isCh27) rfl rfl rfl rfl rfl (Nat.le_of_ble_eq_true rfl) dX6_envy_21 ?_
        intro r21 hr21
        refine g_iadd hX dX6_envy_24 ?_
        refine g_istore_n hX dX6_envy_25 rfl (Nat.le_of_ble_eq_true rfl) rfl ?_
        refine g_iinc hX dX6_envy_26 ic_1 rfl (Nat.le_of_ble_eq_true rfl) rfl ?_
        refine g_goto hX dX6_envy_29 ?_
        exact g_wk (lv0 := [some (.ref (ad Z 0 0)), some (.ref (ad Z 27 0)), some (.int (s9_2 + r21.1)), some (.int (s9_3 + 1))]) ⟨rfl, rfl, rfl, rfl, trivial⟩ (g_end (fun h => h))
    · rintro ⟨s9_2, s9_3, c9_⟩
      show G _ _ (J Z X 4 c9_ mm lm 32 [some (.ref (ad Z 0 0)), some (.ref (ad Z 27 0)), some (.int s9_2), some (.int s9_3)] [])
      refine g_iload_n hX dX6_envy_32 rfl rfl ?_
      exact g_iret hX (fun h => h) dX6_envy_33
  exact g r h hF

def f_X6_settle (cm : CM) (a1 : Int32) : Option (Int32 × CM) :=
  (f_X3_get cm 1 64 a1).bind fun x7 =>
  (f_X0_has cm 27 a1).bind fun x16 =>
  if x16 = 0 then
    if x7 = 2 then
      (f_X3_dismiss cm 1 a1 0).bind fun r33 =>
      some (0, r33)
    else
      some (0, cm)
  else
    (f_X0_seatOf cm 27 a1).bind fun x50 =>
    (f_X3_set cm 1 80 a1 x50).bind fun r53 =>
    (f_X0_groupOf r53 27 a1).bind fun x68 =>
    (f_X3_set r53 1 96 a1 x68).bind fun r71 =>
    (f_X0_handedTo r71 27 a1).bind fun x86 =>
    (f_X3_set r71 1 112 a1 x86).bind fun r89 =>
    if x7 = 0 then
      (f_X3_set r89 1 64 a1 1).bind fun r106 =>
      some (1, r106)
    else
      some (0, r89)

abbrev rm_X6_settle : Room := { frames := 2, cells := 0, slots := 0, locals := 46 }
set_option maxHeartbeats 2000000 in
set_option maxRecDepth 20000 in
theorem c_X6_settle {Z : ZC} {cm : CM} {mm : MM} {lm : LM} {a1 : Int32} {r : Int32 × CM}  (h : f_X6_settle cm a1 = some r) : Ct Z yX6_settle cX6_settle 3 (some .int) rm_X6_settle [.ref (ad Z 0 0), .int a1] cm mm lm (some (.int r.1)) r.2 mm lm := by
  refine Ct_of (own := RX6) [some (.ref (ad Z 0 0)), some (.int a1), none] ⟨by decide, rfl⟩ rfl (Nat.le_of_ble_eq_true rfl) rfl (fun X hX hF => ?_)
  have g : G (fun r : Int32 × CM => Fx Z X (some .int) (some (.int r.1)) r.2 mm lm) (f_X6_settle cm a1) (J Z X 3 cm mm lm 0 [some (.ref (ad Z 0 0)), some (.int a1), none] []) := by
    unfold f_X6_settle
    refine g_aload_n hX dX6_settle_0 rfl rfl ?_
    refine g_get hX fi_6_12 p6_0 e6_0 rfl dX6_settle_1 ?_
    refine g_bipush hX dX6_settle_4 bp_64 ?_
    refine g_iload_n hX dX6_settle_6 rfl rfl ?_
    refine g_callV hX (As := [.int 64, .int a1]) (fun r => (some (.int r))) (fun _ => cm) (fun _ => mm) (fun _ => lm) (fun r hr => c_X3_get isOf1 hr) mi_X3_get ml_6_89 (okO isOf1 (by decide)) (e3_0 isOf1) rfl rfl rfl rfl rfl (Nat.le_of_ble_eq_true rfl) dX6_settle_7 ?_
    intro x7 hx7
    refine g_istore_n hX dX6_settle_10 rfl (Nat.le_of_ble_eq_true rfl) rfl ?_
    refine g_aload_n hX dX6_settle_11 rfl rfl ?_
    refine g_get hX fi_6_26 p6_0 e6_0 rfl dX6_settle_12 ?_
    refine g_iload_n hX dX6_settle_15 rfl rfl ?_
    refine g_callV hX (As := [.int a1]) (fun r => (some (.int r))) (fun _ => cm) (fun _ => mm) (fun _ => lm) (fun r hr => c_X0_has isCh27 hr) mi_X0_has ml_6_200 (okC isCh27 (by decide)) (e0_0 isCh27) rfl rfl rfl rfl rfl (Nat.le_of_ble_eq_true rfl) dX6_settle_16 ?_
    intro x16 hx16
    refine g_if_ne hX dX6_settle_19 (fun h19 => ?_) (fun h19 => ?_)
    · refine g_iload_n hX dX6_settle_22 rfl rfl ?_
      refine g_iconst hX dX6_settle_23 ic_2 ?_
      refine g_icmp_ne hX dX6_settle_24 (fun h24 => ?_) (fun h24 => ?_)
      · refine g_aload_n hX dX6_settle_27 rfl rfl ?_
        refine g_get hX fi_6_12 p6_0 e6_0 rfl dX6_settle_28 ?_
        refine g_iload_n hX dX6_settle_31 rfl rfl ?_
        refine g_iconst hX dX6_settle_32 ic_0 ?_
        refine g_callV hX (As := [.int a1, .int 0]) (fun _ => none) (fun r => r) (fun _ => mm) (fun _ => lm) (fun r hr => c_X3_dismiss isOf1 hr) mi_X3_dismiss ml_6_78 (okO isOf1 (by decide)) (e3_0 isOf1) rfl rfl rfl rfl rfl (Nat.le_of_ble_eq_true rfl) dX6_settle_33 ?_
        intro r33 hr33
        refine g_iconst hX dX6_settle_36 ic_0 ?_
        exact g_iret hX (fun h => h) dX6_settle_37
      · refine g_iconst hX dX6_settle_36 ic_0 ?_
        exact g_iret hX (fun h => h) dX6_settle_37
    · refine g_aload_n hX dX6_settle_38 rfl rfl ?_
      refine g_get hX fi_6_12 p6_0 e6_0 rfl dX6_settle_39 ?_
      refine g_bipush hX dX6_settle_42 bp_80 ?_
      refine g_iload_n hX dX6_settle_44 rfl rfl ?_
      refine g_aload_n hX dX6_settle_45 rfl rfl ?_
      refine g_get hX fi_6_26 p6_0 e6_0 rfl dX6_settle_46 ?_
      refine g_iload_n hX dX6_settle_49 rfl rfl ?_
      refine g_callV hX (As := [.int a1]) (fun r => (some (.int r))) (fun _ => cm) (fun _ => mm) (fun _ => lm) (fun r hr => c_X0_seatOf isCh27 hr) mi_X0_seatOf ml_6_122 (okC isCh27 (by decide)) (e0_0 isCh27) rfl rfl rfl rfl rfl (Nat.le_of_ble_eq_true rfl) dX6_settle_50 ?_
      intro x50 hx50
      refine g_callV hX (As := [.int 80, .int a1, .int x50]) (fun _ => none) (fun r => r) (fun _ => mm) (fun _ => lm) (fun r hr => c_X3_set isOf1 hr) mi_X3_set ml_6_74 (okO isOf1 (by decide)) (e3_0 isOf1) rfl rfl rfl rfl rfl (Nat.le_of_ble_eq_true rfl) dX6_settle_53 ?_
      intro r53 hr53
      refine g_aload_n hX dX6_settle_56 rfl rfl ?_
      refine g_get hX fi_6_12 p6_0 e6_0 rfl dX6_settle_57 ?_
      refine g_bipush hX dX6_settle_60 bp_96 ?_
      refine g_iload_n hX dX6_settle_62 rfl rfl ?_
      refine g_aload_n hX dX6_settle_63 rfl rfl ?_
      refine g_get hX fi_6_26 p6_0 e6_0 rfl dX6_settle_64 ?_
      refine g_iload_n hX dX6_settle_67 rfl rfl ?_
      refine g_callV hX (As := [.int a1]) (fun r => (some (.int r))) (fun _ => r53) (fun _ => mm) (fun _ => lm) (fun r hr => c_X0_groupOf isCh27 hr) mi_X0_groupOf ml_6_125 (okC isCh27 (by decide)) (e0_0 isCh27) rfl rfl rfl rfl rfl (Nat.le_of_ble_eq_true rfl) dX6_settle_68 ?_
      intro x68 hx68
      refine g_callV hX (As := [.int 96, .int a1, .int x68]) (fun _ => none) (fun r => r) (fun _ => mm) (fun _ => lm) (fun r hr => c_X3_set isOf1 hr) mi_X3_set ml_6_74 (okO isOf1 (by decide)) (e3_0 isOf1) rfl rfl rfl rfl rfl (Nat.le_of_ble_eq_true rfl) dX6_settle_71 ?_
      intro r71 hr71
      refine g_aload_n hX dX6_settle_74 rfl rfl ?_
      refine g_get hX fi_6_12 p6_0 e6_0 rfl dX6_settle_75 ?_
      refine g_bipush hX dX6_settle_78 bp_112 ?_
      refine g_iload_n hX dX6_settle_80 rfl rfl ?_
      refine g_aload_n hX dX6_settle_81 rfl rfl ?_
      refine g_get hX fi_6_26 p6_0 e6_0 rfl dX6_settle_82 ?_
      refine g_iload_n hX dX6_settle_85 rfl rfl ?_
      refine g_callV hX (As := [.int a1]) (fun r => (some (.int r))) (fun _ => r71) (fun _ => mm) (fun _ => lm) (fun r hr => c_X0_handedTo isCh27 hr) mi_X0_handedTo ml_6_128 (okC isCh27 (by decide)) (e0_0 isCh27) rfl rfl rfl rfl rfl (Nat.le_of_ble_eq_true rfl) dX6_settle_86 ?_
      intro x86 hx86
      refine g_callV hX (As := [.int 112, .int a1, .int x86]) (fun _ => none) (fun r => r) (fun _ => mm) (fun _ => lm) (fun r hr => c_X3_set isOf1 hr) mi_X3_set ml_6_74 (okO isOf1 (by decide)) (e3_0 isOf1) rfl rfl rfl rfl rfl (Nat.le_of_ble_eq_true rfl) dX6_settle_89 ?_
      intro r89 hr89
      refine g_iload_n hX dX6_settle_92 rfl rfl ?_
      refine g_if_eq hX dX6_settle_93 (fun h93 => ?_) (fun h93 => ?_)
      · refine g_aload_n hX dX6_settle_98 rfl rfl ?_
        refine g_get hX fi_6_12 p6_0 e6_0 rfl dX6_settle_99 ?_
        refine g_bipush hX dX6_settle_102 bp_64 ?_
        refine g_iload_n hX dX6_settle_104 rfl rfl ?_
        refine g_iconst hX dX6_settle_105 ic_1 ?_
        refine g_callV hX (As := [.int 64, .int a1, .int 1]) (fun _ => none) (fun r => r) (fun _ => mm) (fun _ => lm) (fun r hr => c_X3_set isOf1 hr) mi_X3_set ml_6_74 (okO isOf1 (by decide)) (e3_0 isOf1) rfl rfl rfl rfl rfl (Nat.le_of_ble_eq_true rfl) dX6_settle_106 ?_
        intro r106 hr106
        refine g_iconst hX dX6_settle_109 ic_1 ?_
        exact g_iret hX (fun h => h) dX6_settle_110
      · refine g_iconst hX dX6_settle_96 ic_0 ?_
        exact g_iret hX (fun h => h) dX6_settle_97
  exact g r h hF

def f_X6_round_B6 (s6_1 : Int32) (c6_ : CM) : Option ((Int32 × CM) ⊕ (Int32 × CM)) :=
  (f_X3_people c6_ 1).bind fun x11 =>
  if x11 ≤ s6_1 then
    some (.inl (s6_1, c6_))
  else
    (f_X3_get c6_ 1 64 s6_1).bind fun x24 =>
    if x24 = 1 then
      (f_X3_dismiss c6_ 1 s6_1 4).bind fun r37 =>
      some (.inr (s6_1 + 1, r37))
    else
      some (.inr (s6_1 + 1, c6_))

def f_X6_round_B72 (s72_1 : Int32) (s72_2 : Int32) (c72_ : CM) : Option ((Int32 × Int32 × CM) ⊕ (Int32 × Int32 × CM)) :=
  (f_X3_people c72_ 1).bind fun x77 =>
  if x77 ≤ s72_2 then
    some (.inl (s72_1, s72_2, c72_))
  else
    (f_X6_settle c72_ s72_2).bind fun r86 =>
    some (.inr (s72_1 + r86.1, s72_2 + 1, r86.2))

def f_X6_round (cm : CM) : Option (Int32 × CM) :=
  (f_X6_beginAct cm).bind fun r1 =>
  (itr (fun s : Int32 × CM => f_X6_round_B6 s.1 s.2) 2000 (0, r1)).bind fun (s6_1, c6_) =>
  (f_X0_make c6_ 27 1).bind fun r54 =>
  (f_X0_assignGroups r54 27 1).bind fun r65 =>
  (itr (fun s : Int32 × Int32 × CM => f_X6_round_B72 s.1 s.2.1 s.2.2) 2000 (0, 0, r65)).bind fun (s72_1, s72_2, c72_) =>
  (f_X3_get c72_ 1 157 0).bind fun x113 =>
  (f_X3_set c72_ 1 157 0 (x113 + 1)).bind fun r118 =>
  some (s72_1, r118)

abbrev rm_X6_round : Room := { frames := 6, cells := 0, slots := 0, locals := 144 }
set_option maxHeartbeats 2000000 in
set_option maxRecDepth 20000 in
theorem c_X6_round {Z : ZC} {cm : CM} {mm : MM} {lm : LM} {r : Int32 × CM}  (h : f_X6_round cm = some r) : Ct Z yX6_round cX6_round 3 (some .int) rm_X6_round [.ref (ad Z 0 0)] cm mm lm (some (.int r.1)) r.2 mm lm := by
  refine Ct_of (own := RX6) [some (.ref (ad Z 0 0)), none, none] ⟨by decide, rfl⟩ rfl (Nat.le_of_ble_eq_true rfl) rfl (fun X hX hF => ?_)
  have g : G (fun r : Int32 × CM => Fx Z X (some .int) (some (.int r.1)) r.2 mm lm) (f_X6_round cm) (J Z X 3 cm mm lm 0 [some (.ref (ad Z 0 0)), none, none] []) := by
    unfold f_X6_round
    refine g_aload_n hX dX6_round_0 rfl rfl ?_
    refine g_callV hX (As := []) (fun _ => none) (fun r => r) (fun _ => mm) (fun _ => lm) (fun r hr => c_X6_beginAct  hr) mi_X6_beginAct ml_6_71 p6_0 e6_0 rfl rfl rfl rfl rfl (Nat.le_of_ble_eq_true rfl) dX6_round_1 ?_
    intro r1 hr1
    refine g_iconst hX dX6_round_4 ic_0 ?_
    refine g_istore_n hX dX6_round_5 rfl (Nat.le_of_ble_eq_true rfl) rfl ?_
    refine g_loop (Hd := fun s : Int32 × CM => J Z X 3 s.2 mm lm 6 [some (.ref (ad Z 0 0)), some (.int s.1), none] []) (Ex := fun s : Int32 × CM => J Z X 3 s.2 mm lm 46 [some (.ref (ad Z 0 0)), some (.int s.1), none] []) ?_ ?_
    · rintro ⟨s6_1, c6_⟩
      show G _ (f_X6_round_B6 s6_1 c6_) (J Z X 3 c6_ mm lm 6 [some (.ref (ad Z 0 0)), some (.int s6_1), none] [])
      unfold f_X6_round_B6
      refine g_iload_n hX dX6_round_6 rfl rfl ?_
      refine g_aload_n hX dX6_round_7 rfl rfl ?_
      refine g_get hX fi_6_12 p6_0 e6_0 rfl dX6_round_8 ?_
      refine g_callV hX (As := []) (fun r => (some (.int r))) (fun _ => c6_) (fun _ => mm) (fun _ => lm) (fun r hr => c_X3_people isOf1 hr) mi_X3_people ml_6_67 (okO isOf1 (by decide)) (e3_0 isOf1) rfl rfl rfl rfl rfl (Nat.le_of_ble_eq_true rfl) dX6_round_11 ?_
      intro x11 hx11
      refine g_icmp_ge hX dX6_round_14 (fun h14 => ?_) (fun h14 => ?_)
      · exact g_wk (lv0 := [some (.ref (ad Z 0 0)), some (.int s6_1), none]) ⟨rfl, rfl, trivial⟩ (g_end (fun h => h))
      · refine g_aload_n hX dX6_round_17 rfl rfl ?_
        refine g_get hX fi_6_12 p6_0 e6_0 rfl dX6_round_18 ?_
        refine g_bipush hX dX6_round_21 bp_64 ?_
        refine g_iload_n hX dX6_round_23 rfl rfl ?_
        refine g_callV hX (As := [.int 64, .int s6_1]) (fun r => (some (.int r))) (fun _ => c6_) (fun _ => mm) (fun _ => lm) (fun r hr => c_X3_get isOf1 hr) mi_X3_get ml_6_89 (okO isOf1 (by decide)) (e3_0 isOf1) rfl rfl rfl rfl rfl (Nat.le_of_ble_eq_true rfl) dX6_round_24 ?_
        intro x24 hx24
        refine g_iconst hX dX6_round_27 ic_1 ?_
        refine g_icmp_ne hX dX6_round_28 (fun h28 => ?_) (fun h28 => ?_)
        · refine g_aload_n hX dX6_round_31 rfl rfl ?_
          refine g_get hX fi_6_12 p6_0 e6_0 rfl dX6_round_32 ?_
          refine g_iload_n hX dX6_round_35 rfl rfl ?_
          refine g_iconst hX dX6_round_36 ic_4 ?_
          refine g_callV hX (As := [.int s6_1, .int 4]) (fun _ => none) (fun r => r) (fun _ => mm) (fun _ => lm) (fun r hr => c_X3_dismiss isOf1 hr) mi_X3_dismiss ml_6_78 (okO isOf1 (by decide)) (e3_0 isOf1) rfl rfl rfl rfl rfl (Nat.le_of_ble_eq_true rfl) dX6_round_37 ?_
          intro r37 hr37
          refine g_iinc hX dX6_round_40 ic_1 rfl (Nat.le_of_ble_eq_true rfl) rfl ?_
          refine g_goto hX dX6_round_43 ?_
          exact g_wk (lv0 := [some (.ref (ad Z 0 0)), some (.int (s6_1 + 1)), none]) ⟨rfl, rfl, trivial⟩ (g_end (fun h => h))
        · refine g_iinc hX dX6_round_40 ic_1 rfl (Nat.le_of_ble_eq_true rfl) rfl ?_
          refine g_goto hX dX6_round_43 ?_
          exact g_wk (lv0 := [some (.ref (ad Z 0 0)), some (.int (s6_1 + 1)), none]) ⟨rfl, rfl, trivial⟩ (g_end (fun h => h))
    · rintro ⟨s6_1, c6_⟩
      show G _ _ (J Z X 3 c6_ mm lm 46 [some (.ref (ad Z 0 0)), some (.int s6_1), none] [])
      refine g_aload_n hX dX6_round_46 rfl rfl ?_
      refine g_get hX fi_6_26 p6_0 e6_0 rfl dX6_round_47 ?_
      refine g_aload_n hX dX6_round_50 rfl rfl ?_
      refine g_get hX fi_6_12 p6_0 e6_0 rfl dX6_round_51 ?_
      refine g_callV hX (As := [.ref (ad Z 1 0)]) (fun _ => none) (fun r => r) (fun _ => mm) (fun _ => lm) (fun r hr => c_X0_make isCh27 isOf1 hr) mi_X0_make ml_6_170 (okC isCh27 (by decide)) (e0_0 isCh27) rfl rfl rfl rfl rfl (Nat.le_of_ble_eq_true rfl) dX6_round_54 ?_
      intro r54 hr54
      refine g_aload_n hX dX6_round_57 rfl rfl ?_
      refine g_get hX fi_6_26 p6_0 e6_0 rfl dX6_round_58 ?_
      refine g_aload_n hX dX6_round_61 rfl rfl ?_
      refine g_get hX fi_6_12 p6_0 e6_0 rfl dX6_round_62 ?_
      refine g_callV hX (As := [.ref (ad Z 1 0)]) (fun _ => none) (fun r => r) (fun _ => mm) (fun _ => lm) (fun r hr => c_X0_assignGroups isCh27 isOf1 hr) mi_X0_assignGroups ml_6_184 (okC isCh27 (by decide)) (e0_0 isCh27) rfl rfl rfl rfl rfl (Nat.le_of_ble_eq_true rfl) dX6_round_65 ?_
      intro r65 hr65
      refine g_iconst hX dX6_round_68 ic_0 ?_
      refine g_istore_n hX dX6_round_69 rfl (Nat.le_of_ble_eq_true rfl) rfl ?_
      refine g_iconst hX dX6_round_70 ic_0 ?_
      refine g_istore_n hX dX6_round_71 rfl (Nat.le_of_ble_eq_true rfl) rfl ?_
      refine g_loop (Hd := fun s : Int32 × Int32 × CM => J Z X 3 s.2.2 mm lm 72 [some (.ref (ad Z 0 0)), some (.int s.1), some (.int s.2.1)] []) (Ex := fun s : Int32 × Int32 × CM => J Z X 3 s.2.2 mm lm 97 [some (.ref (ad Z 0 0)), some (.int s.1), some (.int s.2.1)] []) ?_ ?_
      · rintro ⟨s72_1, s72_2, c72_⟩
        show G _ (f_X6_round_B72 s72_1 s72_2 c72_) (J Z X 3 c72_ mm lm 72 [some (.ref (ad Z 0 0)), some (.int s72_1), some (.int s72_2)] [])
        unfold f_X6_round_B72
        refine g_iload_n hX dX6_round_72 rfl rfl ?_
        refine g_aload_n hX dX6_round_73 rfl rfl ?_
        refine g_get hX fi_6_12 p6_0 e6_0 rfl dX6_round_74 ?_
        refine g_callV hX (As := []) (fun r => (some (.int r))) (fun _ => c72_) (fun _ => mm) (fun _ => lm) (fun r hr => c_X3_people isOf1 hr) mi_X3_people ml_6_67 (okO isOf1 (by decide)) (e3_0 isOf1) rfl rfl rfl rfl rfl (Nat.le_of_ble_eq_true rfl) dX6_round_77 ?_
        intro x77 hx77
        refine g_icmp_ge hX dX6_round_80 (fun h80 => ?_) (fun h80 => ?_)
        · exact g_wk (lv0 := [some (.ref (ad Z 0 0)), some (.int s72_1), some (.int s72_2)]) ⟨rfl, rfl, rfl, trivial⟩ (g_end (fun h => h))
        · refine g_iload_n hX dX6_round_83 rfl rfl ?_
          refine g_aload_n hX dX6_round_84 rfl rfl ?_
          refine g_iload_n hX dX6_round_85 rfl rfl ?_
          refine g_callV hX (As := [.int s72_2]) (fun r => (some (.int r.1))) (fun r => r.2) (fun _ => mm) (fun _ => lm) (fun r hr => c_X6_settle  hr) mi_X6_settle ml_6_217 p6_0 e6_0 rfl rfl rfl rfl rfl (Nat.le_of_ble_eq_true rfl) dX6_round_86 ?_
          intro r86 hr86
          refine g_iadd hX dX6_round_89 ?_
          refine g_istore_n hX dX6_round_90 rfl (Nat.le_of_ble_eq_true rfl) rfl ?_
          refine g_iinc hX dX6_round_91 ic_1 rfl (Nat.le_of_ble_eq_true rfl) rfl ?_
          refine g_goto hX dX6_round_94 ?_
          exact g_wk (lv0 := [some (.ref (ad Z 0 0)), some (.int (s72_1 + r86.1)), some (.int (s72_2 + 1))]) ⟨rfl, rfl, rfl, trivial⟩ (g_end (fun h => h))
      · rintro ⟨s72_1, s72_2, c72_⟩
        show G _ _ (J Z X 3 c72_ mm lm 97 [some (.ref (ad Z 0 0)), some (.int s72_1), some (.int s72_2)] [])
        refine g_aload_n hX dX6_round_97 rfl rfl ?_
        refine g_get hX fi_6_12 p6_0 e6_0 rfl dX6_round_98 ?_
        refine g_sipush hX dX6_round_101 sp_157 ?_
        refine g_iconst hX dX6_round_104 ic_0 ?_
        refine g_aload_n hX dX6_round_105 rfl rfl ?_
        refine g_get hX fi_6_12 p6_0 e6_0 rfl dX6_round_106 ?_
        refine g_sipush hX dX6_round_109 sp_157 ?_
        refine g_iconst hX dX6_round_112 ic_0 ?_
        refine g_callV hX (As := [.int 157, .int 0]) (fun r => (some (.int r))) (fun _ => c72_) (fun _ => mm) (fun _ => lm) (fun r hr => c_X3_get isOf1 hr) mi_X3_get ml_6_89 (okO isOf1 (by decide)) (e3_0 isOf1) rfl rfl rfl rfl rfl (Nat.le_of_ble_eq_true rfl) dX6_round_113 ?_
        intro x113 hx113
        refine g_iconst hX dX6_round_116 ic_1 ?_
        refine g_iadd hX dX6_round_117 ?_
        refine g_callV hX (As := [.int 157, .int 0, .int (x113 + 1)]) (fun _ => none) (fun r => r) (fun _ => mm) (fun _ => lm) (fun r hr => c_X3_set isOf1 hr) mi_X3_set ml_6_74 (okO isOf1 (by decide)) (e3_0 isOf1) rfl rfl rfl rfl rfl (Nat.le_of_ble_eq_true rfl) dX6_round_118 ?_
        intro r118 hr118
        refine g_iload_n hX dX6_round_121 rfl rfl ?_
        exact g_iret hX (fun h => h) dX6_round_122
  exact g r h hF

def f_X6_answer (cm : CM) (a1 a2 : Int32) : Option (Int32 × CM) :=
  (f_X6_isPerson cm a1).bind fun x2 =>
  if x2 = 0 then
    some ((-1), cm)
  else
    (f_X6_isWithin a2 2).bind fun x12 =>
    if x12 = 0 then
      some ((-2), cm)
    else
      (f_X3_get cm 1 64 a1).bind fun x28 =>
      if x28 = 1 then
        (f_X6_beginAct cm).bind fun r46 =>
        if a2 = 0 then
          (f_X3_dismiss r46 1 a1 4).bind fun r59 =>
          some (x28, r59)
        else
          ((if a2 = 1 then
              some 2
            else
              some 3) : Option (Int32)).bind fun k82_0 =>
          (f_X3_set r46 1 64 a1 k82_0).bind fun r82 =>
          some (x28, r82)
      else
        if x28 = 2 then
          (f_X6_beginAct cm).bind fun r46 =>
          if a2 = 0 then
            (f_X3_dismiss r46 1 a1 4).bind fun r59 =>
            some (x28, r59)
          else
            ((if a2 = 1 then
                some 2
              else
                some 3) : Option (Int32)).bind fun k82_0 =>
            (f_X3_set r46 1 64 a1 k82_0).bind fun r82 =>
            some (x28, r82)
        else
          some ((-3), cm)

abbrev rm_X6_answer : Room := { frames := 4, cells := 0, slots := 0, locals := 103 }
set_option maxHeartbeats 2000000 in
set_option maxRecDepth 20000 in
theorem c_X6_answer {Z : ZC} {cm : CM} {mm : MM} {lm : LM} {a1 a2 : Int32} {r : Int32 × CM}  (h : f_X6_answer cm a1 a2 = some r) : Ct Z yX6_answer cX6_answer 4 (some .int) rm_X6_answer [.ref (ad Z 0 0), .int a1, .int a2] cm mm lm (some (.int r.1)) r.2 mm lm := by
  refine Ct_of (own := RX6) [some (.ref (ad Z 0 0)), some (.int a1), some (.int a2), none] ⟨by decide, rfl⟩ rfl (Nat.le_of_ble_eq_true rfl) rfl (fun X hX hF => ?_)
  have g : G (fun r : Int32 × CM => Fx Z X (some .int) (some (.int r.1)) r.2 mm lm) (f_X6_answer cm a1 a2) (J Z X 4 cm mm lm 0 [some (.ref (ad Z 0 0)), some (.int a1), some (.int a2), none] []) := by
    unfold f_X6_answer
    refine g_aload_n hX dX6_answer_0 rfl rfl ?_
    refine g_iload_n hX dX6_answer_1 rfl rfl ?_
    refine g_callV hX (As := [.int a1]) (fun r => (some (.int r))) (fun _ => cm) (fun _ => mm) (fun _ => lm) (fun r hr => c_X6_isPerson  hr) mi_X6_isPerson ml_6_86 p6_0 e6_0 rfl rfl rfl rfl rfl (Nat.le_of_ble_eq_true rfl) dX6_answer_2 ?_
    intro x2 hx2
    refine g_if_ne hX dX6_answer_5 (fun h5 => ?_) (fun h5 => ?_)
    · refine g_iconst hX dX6_answer_8 ic_m1 ?_
      exact g_iret hX (fun h => h) dX6_answer_9
    · refine g_iload_n hX dX6_answer_10 rfl rfl ?_
      refine g_iconst hX dX6_answer_11 ic_2 ?_
      refine g_callS hX (As := [.int a2, .int 2]) (fun r => (some (.int r))) (fun _ => cm) (fun _ => mm) (fun _ => lm) (fun r hr => c_X6_isWithin  hr) mi_X6_isWithin ml_6_56 rfl rfl rfl (Nat.le_of_ble_eq_true rfl) dX6_answer_12 ?_
      intro x12 hx12
      refine g_if_ne hX dX6_answer_15 (fun h15 => ?_) (fun h15 => ?_)
      · refine g_bipush hX dX6_answer_18 bp_m2 ?_
        exact g_iret hX (fun h => h) dX6_answer_20
      · refine g_aload_n hX dX6_answer_21 rfl rfl ?_
        refine g_get hX fi_6_12 p6_0 e6_0 rfl dX6_answer_22 ?_
        refine g_bipush hX dX6_answer_25 bp_64 ?_
        refine g_iload_n hX dX6_answer_27 rfl rfl ?_
        refine g_callV hX (As := [.int 64, .int a1]) (fun r => (some (.int r))) (fun _ => cm) (fun _ => mm) (fun _ => lm) (fun r hr => c_X3_get isOf1 hr) mi_X3_get ml_6_89 (okO isOf1 (by decide)) (e3_0 isOf1) rfl rfl rfl rfl rfl (Nat.le_of_ble_eq_true rfl) dX6_answer_28 ?_
        intro x28 hx28
        refine g_istore_n hX dX6_answer_31 rfl (Nat.le_of_ble_eq_true rfl) rfl ?_
        refine g_iload_n hX dX6_answer_32 rfl rfl ?_
        refine g_iconst hX dX6_answer_33 ic_1 ?_
        refine g_icmp_eq hX dX6_answer_34 (fun h34 => ?_) (fun h34 => ?_)
        · refine g_aload_n hX dX6_answer_45 rfl rfl ?_
          refine g_callV hX (As := []) (fun _ => none) (fun r => r) (fun _ => mm) (fun _ => lm) (fun r hr => c_X6_beginAct  hr) mi_X6_beginAct ml_6_71 p6_0 e6_0 rfl rfl rfl rfl rfl (Nat.le_of_ble_eq_true rfl) dX6_answer_46 ?_
          intro r46 hr46
          refine g_iload_n hX dX6_answer_49 rfl rfl ?_
          refine g_if_ne hX dX6_answer_50 (fun h50 => ?_) (fun h50 => ?_)
          · refine g_aload_n hX dX6_answer_53 rfl rfl ?_
            refine g_get hX fi_6_12 p6_0 e6_0 rfl dX6_answer_54 ?_
            refine g_iload_n hX dX6_answer_57 rfl rfl ?_
            refine g_iconst hX dX6_answer_58 ic_4 ?_
            refine g_callV hX (As := [.int a1, .int 4]) (fun _ => none) (fun r => r) (fun _ => mm) (fun _ => lm) (fun r hr => c_X3_dismiss isOf1 hr) mi_X3_dismiss ml_6_78 (okO isOf1 (by decide)) (e3_0 isOf1) rfl rfl rfl rfl rfl (Nat.le_of_ble_eq_true rfl) dX6_answer_59 ?_
            intro r59 hr59
            refine g_goto hX dX6_answer_62 ?_
            refine g_iload_n hX dX6_answer_85 rfl rfl ?_
            exact g_iret hX (fun h => h) dX6_answer_86
          · refine g_aload_n hX dX6_answer_65 rfl rfl ?_
            refine g_get hX fi_6_12 p6_0 e6_0 rfl dX6_answer_66 ?_
            refine g_bipush hX dX6_answer_69 bp_64 ?_
            refine g_iload_n hX dX6_answer_71 rfl rfl ?_
            refine g_iload_n hX dX6_answer_72 rfl rfl ?_
            refine g_iconst hX dX6_answer_73 ic_1 ?_
            refine g_bind (fun v : Int32 => J Z X 4 r46 mm lm 82 [some (.ref (ad Z 0 0)), some (.int a1), some (.int a2), some (.int x28)] [.int v, .int a1, .int 64, .ref (ad Z 1 0)]) ?_ ?_
            · refine g_icmp_ne hX dX6_answer_74 (fun h74 => ?_) (fun h74 => ?_)
              · refine g_iconst hX dX6_answer_77 ic_2 ?_
                refine g_goto hX dX6_answer_78 ?_
                exact g_wk (lv0 := [some (.ref (ad Z 0 0)), some (.int a1), some (.int a2), some (.int x28)]) ⟨rfl, rfl, rfl, rfl, trivial⟩ (g_end (fun h => h))
              · refine g_iconst hX dX6_answer_81 ic_3 ?_
                exact g_wk (lv0 := [some (.ref (ad Z 0 0)), some (.int a1), some (.int a2), some (.int x28)]) ⟨rfl, rfl, rfl, rfl, trivial⟩ (g_end (fun h => h))
            · intro k82_0
              show G _ _ (J Z X 4 r46 mm lm 82 [some (.ref (ad Z 0 0)), some (.int a1), some (.int a2), some (.int x28)] [.int k82_0, .int a1, .int 64, .ref (ad Z 1 0)])
              refine g_callV hX (As := [.int 64, .int a1, .int k82_0]) (fun _ => none) (fun r => r) (fun _ => mm) (fun _ => lm) (fun r hr => c_X3_set isOf1 hr) mi_X3_set ml_6_74 (okO isOf1 (by decide)) (e3_0 isOf1) rfl rfl rfl rfl rfl (Nat.le_of_ble_eq_true rfl) dX6_answer_82 ?_
              intro r82 hr82
              refine g_iload_n hX dX6_answer_85 rfl rfl ?_
              exact g_iret hX (fun h => h) dX6_answer_86
        · refine g_iload_n hX dX6_answer_37 rfl rfl ?_
          refine g_iconst hX dX6_answer_38 ic_2 ?_
          refine g_icmp_eq hX dX6_answer_39 (fun h39 => ?_) (fun h39 => ?_)
          · refine g_aload_n hX dX6_answer_45 rfl rfl ?_
            refine g_callV hX (As := []) (fun _ => none) (fun r => r) (fun _ => mm) (fun _ => lm) (fun r hr => c_X6_beginAct  hr) mi_X6_beginAct ml_6_71 p6_0 e6_0 rfl rfl rfl rfl rfl (Nat.le_of_ble_eq_true rfl) dX6_answer_46 ?_
            intro r46 hr46
            refine g_iload_n hX dX6_answer_49 rfl rfl ?_
            refine g_if_ne hX dX6_answer_50 (fun h50 => ?_) (fun h50 => ?_)
            · refine g_aload_n hX dX6_answer_53 rfl rfl ?_
              refine g_get hX fi_6_12 p6_0 e6_0 rfl dX6_answer_54 ?_
              refine g_iload_n hX dX6_answer_57 rfl rfl ?_
              refine g_iconst hX dX6_answer_58 ic_4 ?_
              refine g_callV hX (As := [.int a1, .int 4]) (fun _ => none) (fun r => r) (fun _ => mm) (fun _ => lm) (fun r hr => c_X3_dismiss isOf1 hr) mi_X3_dismiss ml_6_78 (okO isOf1 (by decide)) (e3_0 isOf1) rfl rfl rfl rfl rfl (Nat.le_of_ble_eq_true rfl) dX6_answer_59 ?_
              intro r59 hr59
              refine g_goto hX dX6_answer_62 ?_
              refine g_iload_n hX dX6_answer_85 rfl rfl ?_
              exact g_iret hX (fun h => h) dX6_answer_86
            · refine g_aload_n hX dX6_answer_65 rfl rfl ?_
              refine g_get hX fi_6_12 p6_0 e6_0 rfl dX6_answer_66 ?_
              refine g_bipush hX dX6_answer_69 bp_64 ?_
              refine g_iload_n hX dX6_answer_71 rfl rfl ?_
              refine g_iload_n hX dX6_answer_72 rfl rfl ?_
              refine g_iconst hX dX6_answer_73 ic_1 ?_
              refine g_bind (fun v : Int32 => J Z X 4 r46 mm lm 82 [some (.ref (ad Z 0 0)), some (.int a1), some (.int a2), some (.int x28)] [.int v, .int a1, .int 64, .ref (ad Z 1 0)]) ?_ ?_
              · refine g_icmp_ne hX dX6_answer_74 (fun h74 => ?_) (fun h74 => ?_)
                · refine g_iconst hX dX6_answer_77 ic_2 ?_
                  refine g_goto hX dX6_answer_78 ?_
                  exact g_wk (lv0 := [some (.ref (ad Z 0 0)), some (.int a1), some (.int a2), some (.int x28)]) ⟨rfl, rfl, rfl, rfl, trivial⟩ (g_end (fun h => h))
                · refine g_iconst hX dX6_answer_81 ic_3 ?_
                  exact g_wk (lv0 := [some (.ref (ad Z 0 0)), some (.int a1), some (.int a2), some (.int x28)]) ⟨rfl, rfl, rfl, rfl, trivial⟩ (g_end (fun h => h))
              · intro k82_0
                show G _ _ (J Z X 4 r46 mm lm 82 [some (.ref (ad Z 0 0)), some (.int a1), some (.int a2), some (.int x28)] [.int k82_0, .int a1, .int 64, .ref (ad Z 1 0)])
                refine g_callV hX (As := [.int 64, .int a1, .int k82_0]) (fun _ => none) (fun r => r) (fun _ => mm) (fun _ => lm) (fun r hr => c_X3_set isOf1 hr) mi_X3_set ml_6_74 (okO isOf1 (by decide)) (e3_0 isOf1) rfl rfl rfl rfl rfl (Nat.le_of_ble_eq_true rfl) dX6_answer_82 ?_
                intro r82 hr82
                refine g_iload_n hX dX6_answer_85 rfl rfl ?_
                exact g_iret hX (fun h => h) dX6_answer_86
          · refine g_bipush hX dX6_answer_42 bp_m3 ?_
            exact g_iret hX (fun h => h) dX6_answer_44
  exact g r h hF

def f_X6_again (cm : CM) (a1 : Int32) : Option (Int32 × CM) :=
  (f_X6_isPerson cm a1).bind fun x2 =>
  if x2 = 0 then
    some ((-1), cm)
  else
    (f_X3_get cm 1 64 a1).bind fun x17 =>
    if x17 = 4 then
      (f_X6_beginAct cm).bind fun r28 =>
      (f_X3_dismiss r28 1 a1 0).bind fun r37 =>
      some (1, r37)
    else
      some ((-3), cm)

abbrev rm_X6_again : Room := { frames := 4, cells := 0, slots := 0, locals := 103 }
set_option maxHeartbeats 2000000 in
set_option maxRecDepth 20000 in
theorem c_X6_again {Z : ZC} {cm : CM} {mm : MM} {lm : LM} {a1 : Int32} {r : Int32 × CM}  (h : f_X6_again cm a1 = some r) : Ct Z yX6_again cX6_again 2 (some .int) rm_X6_again [.ref (ad Z 0 0), .int a1] cm mm lm (some (.int r.1)) r.2 mm lm := by
  refine Ct_of (own := RX6) [some (.ref (ad Z 0 0)), some (.int a1)] ⟨by decide, rfl⟩ rfl (Nat.le_of_ble_eq_true rfl) rfl (fun X hX hF => ?_)
  have g : G (fun r : Int32 × CM => Fx Z X (some .int) (some (.int r.1)) r.2 mm lm) (f_X6_again cm a1) (J Z X 2 cm mm lm 0 [some (.ref (ad Z 0 0)), some (.int a1)] []) := by
    unfold f_X6_again
    refine g_aload_n hX dX6_again_0 rfl rfl ?_
    refine g_iload_n hX dX6_again_1 rfl rfl ?_
    refine g_callV hX (As := [.int a1]) (fun r => (some (.int r))) (fun _ => cm) (fun _ => mm) (fun _ => lm) (fun r hr => c_X6_isPerson  hr) mi_X6_isPerson ml_6_86 p6_0 e6_0 rfl rfl rfl rfl rfl (Nat.le_of_ble_eq_true rfl) dX6_again_2 ?_
    intro x2 hx2
    refine g_if_ne hX dX6_again_5 (fun h5 => ?_) (fun h5 => ?_)
    · refine g_iconst hX dX6_again_8 ic_m1 ?_
      exact g_iret hX (fun h => h) dX6_again_9
    · refine g_aload_n hX dX6_again_10 rfl rfl ?_
      refine g_get hX fi_6_12 p6_0 e6_0 rfl dX6_again_11 ?_
      refine g_bipush hX dX6_again_14 bp_64 ?_
      refine g_iload_n hX dX6_again_16 rfl rfl ?_
      refine g_callV hX (As := [.int 64, .int a1]) (fun r => (some (.int r))) (fun _ => cm) (fun _ => mm) (fun _ => lm) (fun r hr => c_X3_get isOf1 hr) mi_X3_get ml_6_89 (okO isOf1 (by decide)) (e3_0 isOf1) rfl rfl rfl rfl rfl (Nat.le_of_ble_eq_true rfl) dX6_again_17 ?_
      intro x17 hx17
      refine g_iconst hX dX6_again_20 ic_4 ?_
      refine g_icmp_eq hX dX6_again_21 (fun h21 => ?_) (fun h21 => ?_)
      · refine g_aload_n hX dX6_again_27 rfl rfl ?_
        refine g_callV hX (As := []) (fun _ => none) (fun r => r) (fun _ => mm) (fun _ => lm) (fun r hr => c_X6_beginAct  hr) mi_X6_beginAct ml_6_71 p6_0 e6_0 rfl rfl rfl rfl rfl (Nat.le_of_ble_eq_true rfl) dX6_again_28 ?_
        intro r28 hr28
        refine g_aload_n hX dX6_again_31 rfl rfl ?_
        refine g_get hX fi_6_12 p6_0 e6_0 rfl dX6_again_32 ?_
        refine g_iload_n hX dX6_again_35 rfl rfl ?_
        refine g_iconst hX dX6_again_36 ic_0 ?_
        refine g_callV hX (As := [.int a1, .int 0]) (fun _ => none) (fun r => r) (fun _ => mm) (fun _ => lm) (fun r hr => c_X3_dismiss isOf1 hr) mi_X3_dismiss ml_6_78 (okO isOf1 (by decide)) (e3_0 isOf1) rfl rfl rfl rfl rfl (Nat.le_of_ble_eq_true rfl) dX6_again_37 ?_
        intro r37 hr37
        refine g_iconst hX dX6_again_40 ic_1 ?_
        exact g_iret hX (fun h => h) dX6_again_41
      · refine g_bipush hX dX6_again_24 bp_m3 ?_
        exact g_iret hX (fun h => h) dX6_again_26
  exact g r h hF

def f_X6_note (cm : CM) (a1 a2 : Int32) : Option (Int32) :=
  (f_X6_isPerson cm a1).bind fun x2 =>
  if x2 = 0 then
    some (-1)
  else
    if a2 = 0 then
      (f_X3_get cm 1 80 a1).bind fun x43 =>
      some x43
    else
    if a2 = 1 then
      (f_X3_get cm 1 96 a1).bind fun x54 =>
      some x54
    else
    if a2 = 2 then
      (f_X3_get cm 1 112 a1).bind fun x65 =>
      some x65
    else
    some (-2)

abbrev rm_X6_note : Room := { frames := 3, cells := 0, slots := 0, locals := 64 }
set_option maxHeartbeats 2000000 in
set_option maxRecDepth 20000 in
theorem c_X6_note {Z : ZC} {cm : CM} {mm : MM} {lm : LM} {a1 a2 : Int32} {r : Int32}  (h : f_X6_note cm a1 a2 = some r) : Ct Z yX6_note cX6_note 3 (some .int) rm_X6_note [.ref (ad Z 0 0), .int a1, .int a2] cm mm lm (some (.int r)) cm mm lm := by
  refine Ct_of (own := RX6) [some (.ref (ad Z 0 0)), some (.int a1), some (.int a2)] ⟨by decide, rfl⟩ rfl (Nat.le_of_ble_eq_true rfl) rfl (fun X hX hF => ?_)
  have g : G (fun r : Int32 => Fx Z X (some .int) (some (.int r)) cm mm lm) (f_X6_note cm a1 a2) (J Z X 3 cm mm lm 0 [some (.ref (ad Z 0 0)), some (.int a1), some (.int a2)] []) := by
    unfold f_X6_note
    refine g_aload_n hX dX6_note_0 rfl rfl ?_
    refine g_iload_n hX dX6_note_1 rfl rfl ?_
    refine g_callV hX (As := [.int a1]) (fun r => (some (.int r))) (fun _ => cm) (fun _ => mm) (fun _ => lm) (fun r hr => c_X6_isPerson  hr) mi_X6_isPerson ml_6_86 p6_0 e6_0 rfl rfl rfl rfl rfl (Nat.le_of_ble_eq_true rfl) dX6_note_2 ?_
    intro x2 hx2
    refine g_if_ne hX dX6_note_5 (fun h5 => ?_) (fun h5 => ?_)
    · refine g_iconst hX dX6_note_8 ic_m1 ?_
      exact g_iret hX (fun h => h) dX6_note_9
    · refine g_iload_n hX dX6_note_10 rfl rfl ?_
      refine g_tsw hX dX6_note_11 0 (by decide) (by decide) rfl rfl (fun h11_0 => ?_) (fun h11_0 => ?_)
      · refine g_aload_n hX dX6_note_36 rfl rfl ?_
        refine g_get hX fi_6_12 p6_0 e6_0 rfl dX6_note_37 ?_
        refine g_bipush hX dX6_note_40 bp_80 ?_
        refine g_iload_n hX dX6_note_42 rfl rfl ?_
        refine g_callV hX (As := [.int 80, .int a1]) (fun r => (some (.int r))) (fun _ => cm) (fun _ => mm) (fun _ => lm) (fun r hr => c_X3_get isOf1 hr) mi_X3_get ml_6_89 (okO isOf1 (by decide)) (e3_0 isOf1) rfl rfl rfl rfl rfl (Nat.le_of_ble_eq_true rfl) dX6_note_43 ?_
        intro x43 hx43
        exact g_iret hX (fun h => h) dX6_note_46
      refine g_tsw hX dX6_note_11 1 (by decide) (by decide) rfl rfl (fun h11_1 => ?_) (fun h11_1 => ?_)
      · refine g_aload_n hX dX6_note_47 rfl rfl ?_
        refine g_get hX fi_6_12 p6_0 e6_0 rfl dX6_note_48 ?_
        refine g_bipush hX dX6_note_51 bp_96 ?_
        refine g_iload_n hX dX6_note_53 rfl rfl ?_
        refine g_callV hX (As := [.int 96, .int a1]) (fun r => (some (.int r))) (fun _ => cm) (fun _ => mm) (fun _ => lm) (fun r hr => c_X3_get isOf1 hr) mi_X3_get ml_6_89 (okO isOf1 (by decide)) (e3_0 isOf1) rfl rfl rfl rfl rfl (Nat.le_of_ble_eq_true rfl) dX6_note_54 ?_
        intro x54 hx54
        exact g_iret hX (fun h => h) dX6_note_57
      refine g_tsw hX dX6_note_11 2 (by decide) (by decide) rfl rfl (fun h11_2 => ?_) (fun h11_2 => ?_)
      · refine g_aload_n hX dX6_note_58 rfl rfl ?_
        refine g_get hX fi_6_12 p6_0 e6_0 rfl dX6_note_59 ?_
        refine g_bipush hX dX6_note_62 bp_112 ?_
        refine g_iload_n hX dX6_note_64 rfl rfl ?_
        refine g_callV hX (As := [.int 112, .int a1]) (fun r => (some (.int r))) (fun _ => cm) (fun _ => mm) (fun _ => lm) (fun r hr => c_X3_get isOf1 hr) mi_X3_get ml_6_89 (okO isOf1 (by decide)) (e3_0 isOf1) rfl rfl rfl rfl rfl (Nat.le_of_ble_eq_true rfl) dX6_note_65 ?_
        intro x65 hx65
        exact g_iret hX (fun h => h) dX6_note_68
      refine g_tsd hX dX6_note_11 (sw_out (n := 3) (fun k hk => match k, hk with | 0, _ => h11_0 | 1, _ => h11_1 | 2, _ => h11_2)) rfl ?_
      refine g_bipush hX dX6_note_69 bp_m2 ?_
      exact g_iret hX (fun h => h) dX6_note_71
  exact g r h hF

def f_X6_back_B19 (a1 : Int32) (s19_2 : Int32) (c19_ : CM) : Option ((Int32 × CM) ⊕ (Int32 × CM)) :=
  if a1 ≤ s19_2 then
    some (.inl (s19_2, c19_))
  else
    (f_X2_restore c19_ 1).bind fun r32 =>
    some (.inr (s19_2 + 1, r32))

def f_X6_back (cm : CM) (a1 : Int32) : Option (Int32 × CM) :=
  (f_X2_size cm).bind fun x5 =>
  (f_X6_isWithin a1 x5).bind fun x8 =>
  if x8 = 0 then
    some ((-2), cm)
  else
    (itr (fun s : Int32 × CM => f_X6_back_B19 a1 s.1 s.2) 2000 (0, cm)).bind fun (s19_2, c19_) =>
    (f_X2_size (u3 c19_ 0 0 (upd (c19_ 0 0) 7 1))).bind fun x50 =>
    some (x50, u3 c19_ 0 0 (upd (c19_ 0 0) 7 1))

abbrev rm_X6_back : Room := { frames := 3, cells := 0, slots := 0, locals := 84 }
set_option maxHeartbeats 2000000 in
set_option maxRecDepth 20000 in
theorem c_X6_back {Z : ZC} {cm : CM} {mm : MM} {lm : LM} {a1 : Int32} {r : Int32 × CM}  (h : f_X6_back cm a1 = some r) : Ct Z yX6_back cX6_back 3 (some .int) rm_X6_back [.ref (ad Z 0 0), .int a1] cm mm lm (some (.int r.1)) r.2 mm lm := by
  refine Ct_of (own := RX6) [some (.ref (ad Z 0 0)), some (.int a1), none] ⟨by decide, rfl⟩ rfl (Nat.le_of_ble_eq_true rfl) rfl (fun X hX hF => ?_)
  have g : G (fun r : Int32 × CM => Fx Z X (some .int) (some (.int r.1)) r.2 mm lm) (f_X6_back cm a1) (J Z X 3 cm mm lm 0 [some (.ref (ad Z 0 0)), some (.int a1), none] []) := by
    unfold f_X6_back
    refine g_iload_n hX dX6_back_0 rfl rfl ?_
    refine g_aload_n hX dX6_back_1 rfl rfl ?_
    refine g_get hX fi_6_19 p6_0 e6_0 rfl dX6_back_2 ?_
    refine g_callV hX (As := []) (fun r => (some (.int r))) (fun _ => cm) (fun _ => mm) (fun _ => lm) (fun r hr => c_X2_size  hr) mi_X2_size ml_6_220 p2_0 e2_0 rfl rfl rfl rfl rfl (Nat.le_of_ble_eq_true rfl) dX6_back_5 ?_
    intro x5 hx5
    refine g_callS hX (As := [.int a1, .int x5]) (fun r => (some (.int r))) (fun _ => cm) (fun _ => mm) (fun _ => lm) (fun r hr => c_X6_isWithin  hr) mi_X6_isWithin ml_6_56 rfl rfl rfl (Nat.le_of_ble_eq_true rfl) dX6_back_8 ?_
    intro x8 hx8
    refine g_if_ne hX dX6_back_11 (fun h11 => ?_) (fun h11 => ?_)
    · refine g_bipush hX dX6_back_14 bp_m2 ?_
      exact g_iret hX (fun h => h) dX6_back_16
    · refine g_iconst hX dX6_back_17 ic_0 ?_
      refine g_istore_n hX dX6_back_18 rfl (Nat.le_of_ble_eq_true rfl) rfl ?_
      refine g_loop (Hd := fun s : Int32 × CM => J Z X 3 s.2 mm lm 19 [some (.ref (ad Z 0 0)), some (.int a1), some (.int s.1)] []) (Ex := fun s : Int32 × CM => J Z X 3 s.2 mm lm 41 [some (.ref (ad Z 0 0)), some (.int a1), some (.int s.1)] []) ?_ ?_
      · rintro ⟨s19_2, c19_⟩
        show G _ (f_X6_back_B19 a1 s19_2 c19_) (J Z X 3 c19_ mm lm 19 [some (.ref (ad Z 0 0)), some (.int a1), some (.int s19_2)] [])
        unfold f_X6_back_B19
        refine g_iload_n hX dX6_back_19 rfl rfl ?_
        refine g_iload_n hX dX6_back_20 rfl rfl ?_
        refine g_icmp_ge hX dX6_back_21 (fun h21 => ?_) (fun h21 => ?_)
        · exact g_wk (lv0 := [some (.ref (ad Z 0 0)), some (.int a1), some (.int s19_2)]) ⟨rfl, rfl, rfl, trivial⟩ (g_end (fun h => h))
        · refine g_aload_n hX dX6_back_24 rfl rfl ?_
          refine g_get hX fi_6_19 p6_0 e6_0 rfl dX6_back_25 ?_
          refine g_aload_n hX dX6_back_28 rfl rfl ?_
          refine g_get hX fi_6_12 p6_0 e6_0 rfl dX6_back_29 ?_
          refine g_callV hX (As := [.ref (ad Z 1 0)]) (fun _ => none) (fun r => r) (fun _ => mm) (fun _ => lm) (fun r hr => c_X2_restore isOf1 hr) mi_X2_restore ml_6_223 p2_0 e2_0 rfl rfl rfl rfl rfl (Nat.le_of_ble_eq_true rfl) dX6_back_32 ?_
          intro r32 hr32
          refine g_iinc hX dX6_back_35 ic_1 rfl (Nat.le_of_ble_eq_true rfl) rfl ?_
          refine g_goto hX dX6_back_38 ?_
          exact g_wk (lv0 := [some (.ref (ad Z 0 0)), some (.int a1), some (.int (s19_2 + 1))]) ⟨rfl, rfl, rfl, trivial⟩ (g_end (fun h => h))
      · rintro ⟨s19_2, c19_⟩
        show G _ _ (J Z X 3 c19_ mm lm 41 [some (.ref (ad Z 0 0)), some (.int a1), some (.int s19_2)] [])
        refine g_aload_n hX dX6_back_41 rfl rfl ?_
        refine g_iconst hX dX6_back_42 ic_1 ?_
        refine g_putC hX fi_6_52 p6_0 (by decide) (s6_0 Z) rfl (Nat.le_of_ble_eq_true rfl) tyX6_ok nmX6 rfl rfl (by decide) (by decide) dX6_back_43 ?_
        refine g_aload_n hX dX6_back_46 rfl rfl ?_
        refine g_get hX fi_6_19 p6_0 e6_0 rfl dX6_back_47 ?_
        refine g_callV hX (As := []) (fun r => (some (.int r))) (fun _ => u3 c19_ 0 0 (upd (c19_ 0 0) 7 1)) (fun _ => mm) (fun _ => lm) (fun r hr => c_X2_size  hr) mi_X2_size ml_6_220 p2_0 e2_0 rfl rfl rfl rfl rfl (Nat.le_of_ble_eq_true rfl) dX6_back_50 ?_
        intro x50 hx50
        exact g_iret hX (fun h => h) dX6_back_53
  exact g r h hF

def f_X6_many (cm : CM) (a1 : Int32) : Option (Int32 × CM) :=
  if a1 = 0 then
    (f_X3_people cm 1).bind fun x52 =>
    some (x52, cm)
  else
  if a1 = 1 then
    (f_X3_countActive cm 1).bind fun x60 =>
    some (x60, cm)
  else
  if a1 = 2 then
    (f_X6_presentChoice cm).bind fun r65 =>
    (f_X0_members r65 27).bind fun x68 =>
    (f_J6_bitCount_0f7a4 x68).bind fun x71 =>
    some (x71, r65)
  else
  if a1 = 3 then
    (f_X3_get cm 1 157 0).bind fun x83 =>
    some (x83, cm)
  else
  if a1 = 4 then
    (f_X2_size cm).bind fun x91 =>
    some (x91, cm)
  else
  if a1 = 5 then
    (f_X6_presentChoice cm).bind fun r96 =>
    (f_X0_countCounted r96 27).bind fun x99 =>
    some (x99, r96)
  else
  if a1 = 6 then
    (f_X3_countWith cm 1 64 3).bind fun x110 =>
    some (x110, cm)
  else
  if a1 = 7 then
    (f_X3_countWith cm 1 64 4).bind fun x121 =>
    some (x121, cm)
  else
  some ((-2), cm)

abbrev rm_X6_many : Room := { frames := 7, cells := 0, slots := 0, locals := 164 }
set_option maxHeartbeats 2000000 in
set_option maxRecDepth 20000 in
theorem c_X6_many {Z : ZC} {cm : CM} {mm : MM} {lm : LM} {a1 : Int32} {r : Int32 × CM}  (h : f_X6_many cm a1 = some r) : Ct Z yX6_many cX6_many 2 (some .int) rm_X6_many [.ref (ad Z 0 0), .int a1] cm mm lm (some (.int r.1)) r.2 mm lm := by
  refine Ct_of (own := RX6) [some (.ref (ad Z 0 0)), some (.int a1)] ⟨by decide, rfl⟩ rfl (Nat.le_of_ble_eq_true rfl) rfl (fun X hX hF => ?_)
  have g : G (fun r : Int32 × CM => Fx Z X (some .int) (some (.int r.1)) r.2 mm lm) (f_X6_many cm a1) (J Z X 2 cm mm lm 0 [some (.ref (ad Z 0 0)), some (.int a1)] []) := by
    unfold f_X6_many
    refine g_iload_n hX dX6_many_0 rfl rfl ?_
    refine g_tsw hX dX6_many_1 0 (by decide) (by decide) rfl rfl (fun h1_0 => ?_) (fun h1_0 => ?_)
    · refine g_aload_n hX dX6_many_48 rfl rfl ?_
      refine g_get hX fi_6_12 p6_0 e6_0 rfl dX6_many_49 ?_
      refine g_callV hX (As := []) (fun r => (some (.int r))) (fun _ => cm) (fun _ => mm) (fun _ => lm) (fun r hr => c_X3_people isOf1 hr) mi_X3_people ml_6_67 (okO isOf1 (by decide)) (e3_0 isOf1) rfl rfl rfl rfl rfl (Nat.le_of_ble_eq_true rfl) dX6_many_52 ?_
      intro x52 hx52
      exact g_iret hX (fun h => h) dX6_many_55
    refine g_tsw hX dX6_many_1 1 (by decide) (by decide) rfl rfl (fun h1_1 => ?_) (fun h1_1 => ?_)
    · refine g_aload_n hX dX6_many_56 rfl rfl ?_
      refine g_get hX fi_6_12 p6_0 e6_0 rfl dX6_many_57 ?_
      refine g_callV hX (As := []) (fun r => (some (.int r))) (fun _ => cm) (fun _ => mm) (fun _ => lm) (fun r hr => c_X3_countActive isOf1 hr) mi_X3_countActive ml_6_226 (okO isOf1 (by decide)) (e3_0 isOf1) rfl rfl rfl rfl rfl (Nat.le_of_ble_eq_true rfl) dX6_many_60 ?_
      intro x60 hx60
      exact g_iret hX (fun h => h) dX6_many_63
    refine g_tsw hX dX6_many_1 2 (by decide) (by decide) rfl rfl (fun h1_2 => ?_) (fun h1_2 => ?_)
    · refine g_aload_n hX dX6_many_64 rfl rfl ?_
      refine g_callV hX (As := []) (fun _ => (some (.ref (ad Z 27 0)))) (fun r => r) (fun _ => mm) (fun _ => lm) (fun r hr => c_X6_presentChoice  hr) mi_X6_presentChoice ml_6_97 p6_0 e6_0 rfl rfl rfl rfl rfl (Nat.le_of_ble_eq_true rfl) dX6_many_65 ?_
      intro r65 hr65
      refine g_callV hX (As := []) (fun r => (some (.int r))) (fun _ => r65) (fun _ => mm) (fun _ => lm) (fun r hr => c_X0_members isCh27 hr) mi_X0_members ml_6_173 (okC isCh27 (by decide)) (e0_0 isCh27) rfl rfl rfl rfl rfl (Nat.le_of_ble_eq_true rfl) dX6_many_68 ?_
      intro x68 hx68
      refine g_callS hX (As := [.int x68]) (fun r => (some (.int r))) (fun _ => r65) (fun _ => mm) (fun _ => lm) (fun r hr => c_J6_bitCount_0f7a4  hr) mi_J6_bitCount_0f7a4 ml_6_176 rfl rfl rfl (Nat.le_of_ble_eq_true rfl) dX6_many_71 ?_
      intro x71 hx71
      exact g_iret hX (fun h => h) dX6_many_74
    refine g_tsw hX dX6_many_1 3 (by decide) (by decide) rfl rfl (fun h1_3 => ?_) (fun h1_3 => ?_)
    · refine g_aload_n hX dX6_many_75 rfl rfl ?_
      refine g_get hX fi_6_12 p6_0 e6_0 rfl dX6_many_76 ?_
      refine g_sipush hX dX6_many_79 sp_157 ?_
      refine g_iconst hX dX6_many_82 ic_0 ?_
      refine g_callV hX (As := [.int 157, .int 0]) (fun r => (some (.int r))) (fun _ => cm) (fun _ => mm) (fun _ => lm) (fun r hr => c_X3_get isOf1 hr) mi_X3_get ml_6_89 (okO isOf1 (by decide)) (e3_0 isOf1) rfl rfl rfl rfl rfl (Nat.le_of_ble_eq_true rfl) dX6_many_83 ?_
      intro x83 hx83
      exact g_iret hX (fun h => h) dX6_many_86
    refine g_tsw hX dX6_many_1 4 (by decide) (by decide) rfl rfl (fun h1_4 => ?_) (fun h1_4 => ?_)
    · refine g_aload_n hX dX6_many_87 rfl rfl ?_
      refine g_get hX fi_6_19 p6_0 e6_0 rfl dX6_many_88 ?_
      refine g_callV hX (As := []) (fun r => (some (.int r))) (fun _ => cm) (fun _ => mm) (fun _ => lm) (fun r hr => c_X2_size  hr) mi_X2_size ml_6_220 p2_0 e2_0 rfl rfl rfl rfl rfl (Nat.le_of_ble_eq_true rfl) dX6_many_91 ?_
      intro x91 hx91
      exact g_iret hX (fun h => h) dX6_many_94
    refine g_tsw hX dX6_many_1 5 (by decide) (by decide) rfl rfl (fun h1_5 => ?_) (fun h1_5 => ?_)
    · refine g_aload_n hX dX6_many_95 rfl rfl ?_
      refine g_callV hX (As := []) (fun _ => (some (.ref (ad Z 27 0)))) (fun r => r) (fun _ => mm) (fun _ => lm) (fun r hr => c_X6_presentChoice  hr) mi_X6_presentChoice ml_6_97 p6_0 e6_0 rfl rfl rfl rfl rfl (Nat.le_of_ble_eq_true rfl) dX6_many_96 ?_
      intro r96 hr96
      refine g_callV hX (As := []) (fun r => (some (.int r))) (fun _ => r96) (fun _ => mm) (fun _ => lm) (fun r hr => c_X0_countCounted isCh27 hr) mi_X0_countCounted ml_6_187 (okC isCh27 (by decide)) (e0_0 isCh27) rfl rfl rfl rfl rfl (Nat.le_of_ble_eq_true rfl) dX6_many_99 ?_
      intro x99 hx99
      exact g_iret hX (fun h => h) dX6_many_102
    refine g_tsw hX dX6_many_1 6 (by decide) (by decide) rfl rfl (fun h1_6 => ?_) (fun h1_6 => ?_)
    · refine g_aload_n hX dX6_many_103 rfl rfl ?_
      refine g_get hX fi_6_12 p6_0 e6_0 rfl dX6_many_104 ?_
      refine g_bipush hX dX6_many_107 bp_64 ?_
      refine g_iconst hX dX6_many_109 ic_3 ?_
      refine g_callV hX (As := [.int 64, .int 3]) (fun r => (some (.int r))) (fun _ => cm) (fun _ => mm) (fun _ => lm) (fun r hr => c_X3_countWith isOf1 hr) mi_X3_countWith ml_6_104 (okO isOf1 (by decide)) (e3_0 isOf1) rfl rfl rfl rfl rfl (Nat.le_of_ble_eq_true rfl) dX6_many_110 ?_
      intro x110 hx110
      exact g_iret hX (fun h => h) dX6_many_113
    refine g_tsw hX dX6_many_1 7 (by decide) (by decide) rfl rfl (fun h1_7 => ?_) (fun h1_7 => ?_)
    · refine g_aload_n hX dX6_many_114 rfl rfl ?_
      refine g_get hX fi_6_12 p6_0 e6_0 rfl dX6_many_115 ?_
      refine g_bipush hX dX6_many_118 bp_64 ?_
      refine g_iconst hX dX6_many_120 ic_4 ?_
      refine g_callV hX (As := [.int 64, .int 4]) (fun r => (some (.int r))) (fun _ => cm) (fun _ => mm) (fun _ => lm) (fun r hr => c_X3_countWith isOf1 hr) mi_X3_countWith ml_6_104 (okO isOf1 (by decide)) (e3_0 isOf1) rfl rfl rfl rfl rfl (Nat.le_of_ble_eq_true rfl) dX6_many_121 ?_
      intro x121 hx121
      exact g_iret hX (fun h => h) dX6_many_124
    refine g_tsd hX dX6_many_1 (sw_out (n := 8) (fun k hk => match k, hk with | 0, _ => h1_0 | 1, _ => h1_1 | 2, _ => h1_2 | 3, _ => h1_3 | 4, _ => h1_4 | 5, _ => h1_5 | 6, _ => h1_6 | 7, _ => h1_7)) rfl ?_
    refine g_bipush hX dX6_many_125 bp_m2 ?_
    exact g_iret hX (fun h => h) dX6_many_127
  exact g r h hF
