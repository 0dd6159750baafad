def f_X7_within (a0 a1 a2 : Int32) : Option (Int32) :=
  if a0 < a1 then
    some 0
  else
    if a2 < a0 then
      some 0
    else
      some 1

abbrev rm_X7_within : Room := { frames := 0, cells := 0, slots := 0, locals := 0 }
set_option maxHeartbeats 2000000 in
set_option maxRecDepth 20000 in
theorem c_X7_within {Z : ZC} {cm : CM} {mm : MM} {lm : LM} {a0 a1 a2 : Int32} {r : Int32}  (h : f_X7_within a0 a1 a2 = some r) : Ct Z yX7_within cX7_within 3 (some .boolean) rm_X7_within [.int a0, .int a1, .int a2] cm mm lm (some (.int r)) cm mm lm := by
  refine Ct_of (own := RX7) [some (.int a0), some (.int a1), some (.int a2)] ⟨by decide, rfl⟩ rfl (Nat.le_of_ble_eq_true rfl) rfl (fun X hX hF => ?_)
  have g : G (fun r : Int32 => Fx Z X (some .boolean) (some (.int r)) cm mm lm) (f_X7_within a0 a1 a2) (J Z X 3 cm mm lm 0 [some (.int a0), some (.int a1), some (.int a2)] []) := by
    unfold f_X7_within
    refine g_iload_n hX dX7_within_0 rfl rfl ?_
    refine g_iload_n hX dX7_within_1 rfl rfl ?_
    refine g_icmp_lt hX dX7_within_2 (fun h2 => ?_) (fun h2 => ?_)
    · refine g_iconst hX dX7_within_14 ic_0 ?_
      exact g_zret hX (by decide) (fun h => h) dX7_within_15
    · refine g_iload_n hX dX7_within_5 rfl rfl ?_
      refine g_iload_n hX dX7_within_6 rfl rfl ?_
      refine g_icmp_gt hX dX7_within_7 (fun h7 => ?_) (fun h7 => ?_)
      · refine g_iconst hX dX7_within_14 ic_0 ?_
        exact g_zret hX (by decide) (fun h => h) dX7_within_15
      · refine g_iconst hX dX7_within_10 ic_1 ?_
        refine g_goto hX dX7_within_11 ?_
        exact g_zret hX (by decide) (fun h => h) dX7_within_15
  exact g r h hF
theorem zb_X7_within {a0 a1 a2 : Int32} {r : Int32} (h : f_X7_within a0 a1 a2 = some r) : narrow .boolean (.int r) = .int r := by
  unfold f_X7_within at h
  (repeat' split at h) <;> cases h <;> decide

def f_X7_isPerson (mm : MM) (a1 : Int32) : Option (Int32) :=
  (rd 159 (mm 1) 157).bind fun x9 =>
  (f_X7_within a1 0 (x9 - 1)).bind fun x12 =>
  some x12

abbrev rm_X7_isPerson : Room := { frames := 1, cells := 0, slots := 0, locals := 22 }
set_option maxHeartbeats 2000000 in
set_option maxRecDepth 20000 in
theorem c_X7_isPerson {Z : ZC} {cm : CM} {mm : MM} {lm : LM} {a1 : Int32} {r : Int32}  (h : f_X7_isPerson mm a1 = some r) : Ct Z yX7_isPerson cX7_isPerson 2 (some .boolean) rm_X7_isPerson [.ref (ad Z 32 0), .int a1] cm mm lm (some (.int r)) cm mm lm := by
  refine Ct_of (own := RX7) [some (.ref (ad Z 32 0)), some (.int a1)] ⟨by decide, rfl⟩ rfl (Nat.le_of_ble_eq_true rfl) rfl (fun X hX hF => ?_)
  have g : G (fun r : Int32 => Fx Z X (some .boolean) (some (.int r)) cm mm lm) (f_X7_isPerson mm a1) (J Z X 2 cm mm lm 0 [some (.ref (ad Z 32 0)), some (.int a1)] []) := by
    unfold f_X7_isPerson
    refine g_iload_n hX dX7_isPerson_0 rfl rfl ?_
    refine g_iconst hX dX7_isPerson_1 ic_0 ?_
    refine g_aload_n hX dX7_isPerson_2 rfl rfl ?_
    refine g_get hX fi_7_7 p7_0 e7_0 rfl dX7_isPerson_3 ?_
    refine g_sipush hX dX7_isPerson_6 sp_157 ?_
    refine g_iald hX p7_1 e7_1 dX7_isPerson_9 ?_
    intro x9 hx9
    refine g_iconst hX dX7_isPerson_10 ic_1 ?_
    refine g_isub hX dX7_isPerson_11 ?_
    refine g_callS hX (As := [.int a1, .int 0, .int (x9 - 1)]) (fun r => (some (.int r))) (fun _ => cm) (fun _ => mm) (fun _ => lm) (fun r hr => c_X7_within  hr) mi_X7_within ml_7_66 rfl rfl rfl (Nat.le_of_ble_eq_true rfl) dX7_isPerson_12 ?_
    intro x12 hx12
    exact g_zret hX (zb_X7_within hx12) (fun h => h) dX7_isPerson_15
  exact g r h hF

def f_X7_isKind (a0 : Int32) : Option (Int32) :=
  (f_X7_within a0 0 3).bind fun x3 =>
  some x3

abbrev rm_X7_isKind : Room := { frames := 1, cells := 0, slots := 0, locals := 22 }
set_option maxHeartbeats 2000000 in
set_option maxRecDepth 20000 in
theorem c_X7_isKind {Z : ZC} {cm : CM} {mm : MM} {lm : LM} {a0 : Int32} {r : Int32}  (h : f_X7_isKind a0 = some r) : Ct Z yX7_isKind cX7_isKind 1 (some .boolean) rm_X7_isKind [.int a0] cm mm lm (some (.int r)) cm mm lm := by
  refine Ct_of (own := RX7) [some (.int a0)] ⟨by decide, rfl⟩ rfl (Nat.le_of_ble_eq_true rfl) rfl (fun X hX hF => ?_)
  have g : G (fun r : Int32 => Fx Z X (some .boolean) (some (.int r)) cm mm lm) (f_X7_isKind a0) (J Z X 1 cm mm lm 0 [some (.int a0)] []) := by
    unfold f_X7_isKind
    refine g_iload_n hX dX7_isKind_0 rfl rfl ?_
    refine g_iconst hX dX7_isKind_1 ic_0 ?_
    refine g_iconst hX dX7_isKind_2 ic_3 ?_
    refine g_callS hX (As := [.int a0, .int 0, .int 3]) (fun r => (some (.int r))) (fun _ => cm) (fun _ => mm) (fun _ => lm) (fun r hr => c_X7_within  hr) mi_X7_within ml_7_66 rfl rfl rfl (Nat.le_of_ble_eq_true rfl) dX7_isKind_3 ?_
    intro x3 hx3
    exact g_zret hX (zb_X7_within hx3) (fun h => h) dX7_isKind_6
  exact g r h hF

def f_X7_of (mm : MM) (a1 a2 : Int32) : Option (Int32) :=
  (rd 159 (mm 1) ((8 * a1) + a2)).bind fun x10 =>
  some x10

abbrev rm_X7_of : Room := { frames := 0, cells := 0, slots := 0, locals := 0 }
set_option maxHeartbeats 2000000 in
set_option maxRecDepth 20000 in
theorem c_X7_of {Z : ZC} {cm : CM} {mm : MM} {lm : LM} {a1 a2 : Int32} {r : Int32}  (h : f_X7_of mm a1 a2 = some r) : Ct Z yX7_of cX7_of 3 (some .int) rm_X7_of [.ref (ad Z 32 0), .int a1, .int a2] cm mm lm (some (.int r)) cm mm lm := by
  refine Ct_of (own := RX7) [some (.ref (ad Z 32 0)), some (.int a1), some (.int a2)] ⟨by decide, rfl⟩ rfl (Nat.le_of_ble_eq_true rfl) rfl (fun X hX hF => ?_)
  have g : G (fun r : Int32 => Fx Z X (some .int) (some (.int r)) cm mm lm) (f_X7_of mm a1 a2) (J Z X 3 cm mm lm 0 [some (.ref (ad Z 32 0)), some (.int a1), some (.int a2)] []) := by
    unfold f_X7_of
    refine g_aload_n hX dX7_of_0 rfl rfl ?_
    refine g_get hX fi_7_7 p7_0 e7_0 rfl dX7_of_1 ?_
    refine g_bipush hX dX7_of_4 bp_8 ?_
    refine g_iload_n hX dX7_of_6 rfl rfl ?_
    refine g_imul hX dX7_of_7 ?_
    refine g_iload_n hX dX7_of_8 rfl rfl ?_
    refine g_iadd hX dX7_of_9 ?_
    refine g_iald hX p7_1 e7_1 dX7_of_10 ?_
    intro x10 hx10
    exact g_iret hX (fun h => h) dX7_of_11
  exact g r h hF

def f_X7_become (mm : MM) (a1 a2 a3 : Int32) : Option (MM) :=
  (wr 159 (mm 1) ((8 * a1) + a2) a3).bind fun g11 =>
  some (u2 mm 1 g11)

abbrev rm_X7_become : Room := { frames := 0, cells := 0, slots := 0, locals := 0 }
set_option maxHeartbeats 2000000 in
set_option maxRecDepth 20000 in
theorem c_X7_become {Z : ZC} {cm : CM} {mm : MM} {lm : LM} {a1 a2 a3 : Int32} {r : MM}  (h : f_X7_become mm a1 a2 a3 = some r) : Ct Z yX7_become cX7_become 4 none rm_X7_become [.ref (ad Z 32 0), .int a1, .int a2, .int a3] cm mm lm none cm r lm := by
  refine Ct_of (own := RX7) [some (.ref (ad Z 32 0)), some (.int a1), some (.int a2), some (.int a3)] ⟨by decide, rfl⟩ rfl (Nat.le_of_ble_eq_true rfl) rfl (fun X hX hF => ?_)
  have g : G (fun r : MM => Fx Z X none none cm r lm) (f_X7_become mm a1 a2 a3) (J Z X 4 cm mm lm 0 [some (.ref (ad Z 32 0)), some (.int a1), some (.int a2), some (.int a3)] []) := by
    unfold f_X7_become
    refine g_aload_n hX dX7_become_0 rfl rfl ?_
    refine g_get hX fi_7_7 p7_0 e7_0 rfl dX7_become_1 ?_
    refine g_bipush hX dX7_become_4 bp_8 ?_
    refine g_iload_n hX dX7_become_6 rfl rfl ?_
    refine g_imul hX dX7_become_7 ?_
    refine g_iload_n hX dX7_become_8 rfl rfl ?_
    refine g_iadd hX dX7_become_9 ?_
    refine g_iload_n hX dX7_become_10 rfl rfl ?_
    refine g_iastM hX p7_1 (s7_1 Z _) dX7_become_11 ?_
    intro g11 hg11
    exact g_vret hX (fun h => h) dX7_become_12
  exact g r h hF

def f_X7_sizeOf_B4 (a0 : Int32) (s4_1 : Int32) (s4_2 : Int32) : Option ((Int32 × Int32) ⊕ (Int32 × Int32)) :=
  if 16 ≤ s4_2 then
    some (.inl (s4_1, s4_2))
  else
    some (.inr (s4_1 + ((a0 >>> (s4_2 &&& 31)) &&& 1), s4_2 + 1))

def f_X7_sizeOf (a0 : Int32) : Option (Int32) :=
  (itr (fun s : Int32 × Int32 => f_X7_sizeOf_B4 a0 s.1 s.2) 2000 (0, 0)).bind fun (s4_1, s4_2) =>
  some s4_1

abbrev rm_X7_sizeOf : Room := { frames := 0, cells := 0, slots := 0, locals := 0 }
set_option maxHeartbeats 2000000 in
set_option maxRecDepth 20000 in
theorem c_X7_sizeOf {Z : ZC} {cm : CM} {mm : MM} {lm : LM} {a0 : Int32} {r : Int32}  (h : f_X7_sizeOf a0 = some r) : Ct Z yX7_sizeOf cX7_sizeOf 3 (some .int) rm_X7_sizeOf [.int a0] cm mm lm (some (.int r)) cm mm lm := by
  refine Ct_of (own := RX7) [some (.int a0), none, none] ⟨by decide, rfl⟩ rfl (Nat.le_of_ble_eq_true rfl) rfl (fun X hX hF => ?_)
  have g : G (fun r : Int32 => Fx Z X (some .int) (some (.int r)) cm mm lm) (f_X7_sizeOf a0) (J Z X 3 cm mm lm 0 [some (.int a0), none, none] []) := by
    unfold f_X7_sizeOf
    refine g_iconst hX dX7_sizeOf_0 ic_0 ?_
    refine g_istore_n hX dX7_sizeOf_1 rfl (Nat.le_of_ble_eq_true rfl) rfl ?_
    refine g_iconst hX dX7_sizeOf_2 ic_0 ?_
    refine g_istore_n hX dX7_sizeOf_3 rfl (Nat.le_of_ble_eq_true rfl) rfl ?_
    refine g_loop (Hd := fun s : Int32 × Int32 => J Z X 3 cm mm lm 4 [some (.int a0), some (.int s.1), some (.int s.2)] []) (Ex := fun s : Int32 × Int32 => J Z X 3 cm mm lm 24 [some (.int a0), some (.int s.1), some (.int s.2)] []) ?_ ?_
    · rintro ⟨s4_1, s4_2⟩
      show G _ (f_X7_sizeOf_B4 a0 s4_1 s4_2) (J Z X 3 cm mm lm 4 [some (.int a0), some (.int s4_1), some (.int s4_2)] [])
      unfold f_X7_sizeOf_B4
      refine g_iload_n hX dX7_sizeOf_4 rfl rfl ?_
      refine g_bipush hX dX7_sizeOf_5 bp_16 ?_
      refine g_icmp_ge hX dX7_sizeOf_7 (fun h7 => ?_) (fun h7 => ?_)
      · exact g_wk (lv0 := [some (.int a0), some (.int s4_1), some (.int s4_2)]) ⟨rfl, rfl, rfl, trivial⟩ (g_end (fun h => h))
      · refine g_iload_n hX dX7_sizeOf_10 rfl rfl ?_
        refine g_iload_n hX dX7_sizeOf_11 rfl rfl ?_
        refine g_iload_n hX dX7_sizeOf_12 rfl rfl ?_
        refine g_ishr hX dX7_sizeOf_13 ?_
        refine g_iconst hX dX7_sizeOf_14 ic_1 ?_
        refine g_iand hX dX7_sizeOf_15 ?_
        refine g_iadd hX dX7_sizeOf_16 ?_
        refine g_istore_n hX dX7_sizeOf_17 rfl (Nat.le_of_ble_eq_true rfl) rfl ?_
        refine g_iinc hX dX7_sizeOf_18 ic_1 rfl (Nat.le_of_ble_eq_true rfl) rfl ?_
        refine g_goto hX dX7_sizeOf_21 ?_
        exact g_wk (lv0 := [some (.int a0), some (.int (s4_1 + ((a0 >>> (s4_2 &&& 31)) &&& 1))), some (.int (s4_2 + 1))]) ⟨rfl, rfl, rfl, trivial⟩ (g_end (fun h => h))
    · rintro ⟨s4_1, s4_2⟩
      show G _ _ (J Z X 3 cm mm lm 24 [some (.int a0), some (.int s4_1), some (.int s4_2)] [])
      refine g_iload_n hX dX7_sizeOf_24 rfl rfl ?_
      exact g_iret hX (fun h => h) dX7_sizeOf_25
  exact g r h hF

def f_X7_keep_B2 (s2_1 : Int32) (m2_ : MM) : Option ((Int32 × MM) ⊕ (Int32 × MM)) :=
  if 159 ≤ s2_1 then
    some (.inl (s2_1, m2_))
  else
    (rd 159 (m2_ 1) s2_1).bind fun x28 =>
    (wr 3816 (m2_ 2) ((159 * (m2_ 0 3)) + s2_1) x28).bind fun g29 =>
    some (.inr (s2_1 + 1, u2 m2_ 2 g29))

def f_X7_keep (mm : MM) : Option (MM) :=
  (itr (fun s : Int32 × MM => f_X7_keep_B2 s.1 s.2) 2000 (0, mm)).bind fun (s2_1, m2_) =>
  (rmI ((m2_ 0 3) + 1) 24).bind fun x45 =>
  if 24 ≤ ((u2 m2_ 0 (upd (m2_ 0) 3 x45)) 0 2) then
    some (u2 (u2 m2_ 0 (upd (m2_ 0) 3 x45)) 0 (upd ((u2 m2_ 0 (upd (m2_ 0) 3 x45)) 0) 2 24))
  else
    some (u2 (u2 m2_ 0 (upd (m2_ 0) 3 x45)) 0 (upd ((u2 m2_ 0 (upd (m2_ 0) 3 x45)) 0) 2 (((u2 m2_ 0 (upd (m2_ 0) 3 x45)) 0 2) + 1)))

abbrev rm_X7_keep : Room := { frames := 0, cells := 0, slots := 0, locals := 0 }
set_option maxHeartbeats 2000000 in
set_option maxRecDepth 20000 in
theorem c_X7_keep {Z : ZC} {cm : CM} {mm : MM} {lm : LM} {r : MM}  (h : f_X7_keep mm = some r) : Ct Z yX7_keep cX7_keep 2 none rm_X7_keep [.ref (ad Z 32 0)] cm mm lm none cm r lm := by
  refine Ct_of (own := RX7) [some (.ref (ad Z 32 0)), none] ⟨by decide, rfl⟩ rfl (Nat.le_of_ble_eq_true rfl) rfl (fun X hX hF => ?_)
  have g : G (fun r : MM => Fx Z X none none cm r lm) (f_X7_keep mm) (J Z X 2 cm mm lm 0 [some (.ref (ad Z 32 0)), none] []) := by
    unfold f_X7_keep
    refine g_iconst hX dX7_keep_0 ic_0 ?_
    refine g_istore_n hX dX7_keep_1 rfl (Nat.le_of_ble_eq_true rfl) rfl ?_
    refine g_loop (Hd := fun s : Int32 × MM => J Z X 2 cm s.2 lm 2 [some (.ref (ad Z 32 0)), some (.int s.1)] []) (Ex := fun s : Int32 × MM => J Z X 2 cm s.2 lm 36 [some (.ref (ad Z 32 0)), some (.int s.1)] []) ?_ ?_
    · rintro ⟨s2_1, m2_⟩
      show G _ (f_X7_keep_B2 s2_1 m2_) (J Z X 2 cm m2_ lm 2 [some (.ref (ad Z 32 0)), some (.int s2_1)] [])
      unfold f_X7_keep_B2
      refine g_iload_n hX dX7_keep_2 rfl rfl ?_
      refine g_sipush hX dX7_keep_3 sp_159 ?_
      refine g_icmp_ge hX dX7_keep_6 (fun h6 => ?_) (fun h6 => ?_)
      · exact g_wk (lv0 := [some (.ref (ad Z 32 0)), some (.int s2_1)]) ⟨rfl, rfl, trivial⟩ (g_end (fun h => h))
      · refine g_aload_n hX dX7_keep_9 rfl rfl ?_
        refine g_get hX fi_7_13 p7_0 e7_0 rfl dX7_keep_10 ?_
        refine g_sipush hX dX7_keep_13 sp_159 ?_
        refine g_aload_n hX dX7_keep_16 rfl rfl ?_
        refine g_get hX fi_7_70 p7_0 e7_0 rfl dX7_keep_17 ?_
        refine g_imul hX dX7_keep_20 ?_
        refine g_iload_n hX dX7_keep_21 rfl rfl ?_
        refine g_iadd hX dX7_keep_22 ?_
        refine g_aload_n hX dX7_keep_23 rfl rfl ?_
        refine g_get hX fi_7_7 p7_0 e7_0 rfl dX7_keep_24 ?_
        refine g_iload_n hX dX7_keep_27 rfl rfl ?_
        refine g_iald hX p7_1 e7_1 dX7_keep_28 ?_
        intro x28 hx28
        refine g_iastM hX p7_2 (s7_2 Z _) dX7_keep_29 ?_
        intro g29 hg29
        refine g_iinc hX dX7_keep_30 ic_1 rfl (Nat.le_of_ble_eq_true rfl) rfl ?_
        refine g_goto hX dX7_keep_33 ?_
        exact g_wk (lv0 := [some (.ref (ad Z 32 0)), some (.int (s2_1 + 1))]) ⟨rfl, rfl, trivial⟩ (g_end (fun h => h))
    · rintro ⟨s2_1, m2_⟩
      show G _ _ (J Z X 2 cm m2_ lm 36 [some (.ref (ad Z 32 0)), some (.int s2_1)] [])
      refine g_aload_n hX dX7_keep_36 rfl rfl ?_
      refine g_aload_n hX dX7_keep_37 rfl rfl ?_
      refine g_get hX fi_7_70 p7_0 e7_0 rfl dX7_keep_38 ?_
      refine g_iconst hX dX7_keep_41 ic_1 ?_
      refine g_iadd hX dX7_keep_42 ?_
      refine g_bipush hX dX7_keep_43 bp_24 ?_
      refine g_irem' hX dX7_keep_45 ?_
      intro x45 hx45
      refine g_putM hX fi_7_70 (s7_0 Z _) rfl (Nat.le_of_ble_eq_true rfl) rfl rfl dX7_keep_46 ?_
      refine g_aload_n hX dX7_keep_49 rfl rfl ?_
      refine g_aload_n hX dX7_keep_50 rfl rfl ?_
      refine g_get hX fi_7_74 p7_0 e7_0 rfl dX7_keep_51 ?_
      refine g_bipush hX dX7_keep_54 bp_24 ?_
      refine g_icmp_ge hX dX7_keep_56 (fun h56 => ?_) (fun h56 => ?_)
      · refine g_bipush hX dX7_keep_68 bp_24 ?_
        refine g_putM hX fi_7_74 (s7_0 Z _) rfl (Nat.le_of_ble_eq_true rfl) rfl rfl dX7_keep_70 ?_
        exact g_vret hX (fun h => h) dX7_keep_73
      · refine g_aload_n hX dX7_keep_59 rfl rfl ?_
        refine g_get hX fi_7_74 p7_0 e7_0 rfl dX7_keep_60 ?_
        refine g_iconst hX dX7_keep_63 ic_1 ?_
        refine g_iadd hX dX7_keep_64 ?_
        refine g_goto hX dX7_keep_65 ?_
        refine g_putM hX fi_7_74 (s7_0 Z _) rfl (Nat.le_of_ble_eq_true rfl) rfl rfl dX7_keep_70 ?_
        exact g_vret hX (fun h => h) dX7_keep_73
  exact g r h hF

def f_X7_back_B47 (s47_2 : Int32) (m47_ : MM) : Option ((Int32 × MM) ⊕ (Int32 × MM)) :=
  if 159 ≤ s47_2 then
    some (.inl (s47_2, m47_))
  else
    (rd 3816 (m47_ 2) ((159 * (m47_ 0 3)) + s47_2)).bind fun x73 =>
    (wr 159 (m47_ 1) s47_2 x73).bind fun g74 =>
    some (.inr (s47_2 + 1, u2 m47_ 1 g74))

def f_X7_back (mm : MM) (a1 : Int32) : Option (Int32 × MM) :=
  (f_X7_within a1 0 (mm 0 2)).bind fun x6 =>
  if x6 = 0 then
    some ((-2), mm)
  else
    if a1 ≤ 0 then
      some (mm 0 2, mm)
    else
      (rmI (((mm 0 3) - a1) + 24) 24).bind fun x31 =>
      (itr (fun s : Int32 × MM => f_X7_back_B47 s.1 s.2) 2000 (0, u2 (u2 mm 0 (upd (mm 0) 3 x31)) 0 (upd ((u2 mm 0 (upd (mm 0) 3 x31)) 0) 2 (((u2 mm 0 (upd (mm 0) 3 x31)) 0 2) - a1)))).bind fun (s47_2, m47_) =>
      some (m47_ 0 2, m47_)

abbrev rm_X7_back : Room := { frames := 1, cells := 0, slots := 0, locals := 22 }
set_option maxHeartbeats 2000000 in
set_option maxRecDepth 20000 in
theorem c_X7_back {Z : ZC} {cm : CM} {mm : MM} {lm : LM} {a1 : Int32} {r : Int32 × MM}  (h : f_X7_back mm a1 = some r) : Ct Z yX7_back cX7_back 3 (some .int) rm_X7_back [.ref (ad Z 32 0), .int a1] cm mm lm (some (.int r.1)) cm r.2 lm := by
  refine Ct_of (own := RX7) [some (.ref (ad Z 32 0)), some (.int a1), none] ⟨by decide, rfl⟩ rfl (Nat.le_of_ble_eq_true rfl) rfl (fun X hX hF => ?_)
  have g : G (fun r : Int32 × MM => Fx Z X (some .int) (some (.int r.1)) cm r.2 lm) (f_X7_back mm a1) (J Z X 3 cm mm lm 0 [some (.ref (ad Z 32 0)), some (.int a1), none] []) := by
    unfold f_X7_back
    refine g_iload_n hX dX7_back_0 rfl rfl ?_
    refine g_iconst hX dX7_back_1 ic_0 ?_
    refine g_aload_n hX dX7_back_2 rfl rfl ?_
    refine g_get hX fi_7_74 p7_0 e7_0 rfl dX7_back_3 ?_
    refine g_callS hX (As := [.int a1, .int 0, .int (mm 0 2)]) (fun r => (some (.int r))) (fun _ => cm) (fun _ => mm) (fun _ => lm) (fun r hr => c_X7_within  hr) mi_X7_within ml_7_66 rfl rfl rfl (Nat.le_of_ble_eq_true rfl) dX7_back_6 ?_
    intro x6 hx6
    refine g_if_ne hX dX7_back_9 (fun h9 => ?_) (fun h9 => ?_)
    · refine g_bipush hX dX7_back_12 bp_m2 ?_
      exact g_iret hX (fun h => h) dX7_back_14
    · refine g_iload_n hX dX7_back_15 rfl rfl ?_
      refine g_if_le hX dX7_back_16 (fun h16 => ?_) (fun h16 => ?_)
      · refine g_aload_n hX dX7_back_81 rfl rfl ?_
        refine g_get hX fi_7_74 p7_0 e7_0 rfl dX7_back_82 ?_
        exact g_iret hX (fun h => h) dX7_back_85
      · refine g_aload_n hX dX7_back_19 rfl rfl ?_
        refine g_aload_n hX dX7_back_20 rfl rfl ?_
        refine g_get hX fi_7_70 p7_0 e7_0 rfl dX7_back_21 ?_
        refine g_iload_n hX dX7_back_24 rfl rfl ?_
        refine g_isub hX dX7_back_25 ?_
        refine g_bipush hX dX7_back_26 bp_24 ?_
        refine g_iadd hX dX7_back_28 ?_
        refine g_bipush hX dX7_back_29 bp_24 ?_
        refine g_irem' hX dX7_back_31 ?_
        intro x31 hx31
        refine g_putM hX fi_7_70 (s7_0 Z _) rfl (Nat.le_of_ble_eq_true rfl) rfl rfl dX7_back_32 ?_
        refine g_aload_n hX dX7_back_35 rfl rfl ?_
        refine g_dup hX dX7_back_36 rfl ?_
        refine g_get hX fi_7_74 p7_0 e7_0 rfl dX7_back_37 ?_
        refine g_iload_n hX dX7_back_40 rfl rfl ?_
        refine g_isub hX dX7_back_41 ?_
        refine g_putM hX fi_7_74 (s7_0 Z _) rfl (Nat.le_of_ble_eq_true rfl) rfl rfl dX7_back_42 ?_
        refine g_iconst hX dX7_back_45 ic_0 ?_
        refine g_istore_n hX dX7_back_46 rfl (Nat.le_of_ble_eq_true rfl) rfl ?_
        refine g_loop (Hd := fun s : Int32 × MM => J Z X 3 cm s.2 lm 47 [some (.ref (ad Z 32 0)), some (.int a1), some (.int s.1)] []) (Ex := fun s : Int32 × MM => J Z X 3 cm s.2 lm 81 [some (.ref (ad Z 32 0)), some (.int a1), some (.int s.1)] []) ?_ ?_
        · rintro ⟨s47_2, m47_⟩
          show G _ (f_X7_back_B47 s47_2 m47_) (J Z X 3 cm m47_ lm 47 [some (.ref (ad Z 32 0)), some (.int a1), some (.int s47_2)] [])
          unfold f_X7_back_B47
          refine g_iload_n hX dX7_back_47 rfl rfl ?_
          refine g_sipush hX dX7_back_48 sp_159 ?_
          refine g_icmp_ge hX dX7_back_51 (fun h51 => ?_) (fun h51 => ?_)
          · exact g_wk (lv0 := [some (.ref (ad Z 32 0)), some (.int a1), some (.int s47_2)]) ⟨rfl, rfl, rfl, trivial⟩ (g_end (fun h => h))
          · refine g_aload_n hX dX7_back_54 rfl rfl ?_
            refine g_get hX fi_7_7 p7_0 e7_0 rfl dX7_back_55 ?_
            refine g_iload_n hX dX7_back_58 rfl rfl ?_
            refine g_aload_n hX dX7_back_59 rfl rfl ?_
            refine g_get hX fi_7_13 p7_0 e7_0 rfl dX7_back_60 ?_
            refine g_sipush hX dX7_back_63 sp_159 ?_
            refine g_aload_n hX dX7_back_66 rfl rfl ?_
            refine g_get hX fi_7_70 p7_0 e7_0 rfl dX7_back_67 ?_
            refine g_imul hX dX7_back_70 ?_
            refine g_iload_n hX dX7_back_71 rfl rfl ?_
            refine g_iadd hX dX7_back_72 ?_
            refine g_iald hX p7_2 e7_2 dX7_back_73 ?_
            intro x73 hx73
            refine g_iastM hX p7_1 (s7_1 Z _) dX7_back_74 ?_
            intro g74 hg74
            refine g_iinc hX dX7_back_75 ic_1 rfl (Nat.le_of_ble_eq_true rfl) rfl ?_
            refine g_goto hX dX7_back_78 ?_
            exact g_wk (lv0 := [some (.ref (ad Z 32 0)), some (.int a1), some (.int (s47_2 + 1))]) ⟨rfl, rfl, rfl, trivial⟩ (g_end (fun h => h))
        · rintro ⟨s47_2, m47_⟩
          show G _ _ (J Z X 3 cm m47_ lm 81 [some (.ref (ad Z 32 0)), some (.int a1), some (.int s47_2)] [])
          refine g_aload_n hX dX7_back_81 rfl rfl ?_
          refine g_get hX fi_7_74 p7_0 e7_0 rfl dX7_back_82 ?_
          exact g_iret hX (fun h => h) dX7_back_85
  exact g r h hF

def f_X7_changes (mm : MM) (a1 a2 : Int32) : Option (Int32 × MM) :=
  (f_X7_keep mm).bind fun r1 =>
  (rd 159 (r1 1) a1).bind fun x9 =>
  (wr 159 (r1 1) a1 a2).bind fun g17 =>
  some (x9, u2 r1 1 g17)

abbrev rm_X7_changes : Room := { frames := 1, cells := 0, slots := 0, locals := 21 }
set_option maxHeartbeats 2000000 in
set_option maxRecDepth 20000 in
theorem c_X7_changes {Z : ZC} {cm : CM} {mm : MM} {lm : LM} {a1 a2 : Int32} {r : Int32 × MM}  (h : f_X7_changes mm a1 a2 = some r) : Ct Z yX7_changes cX7_changes 4 (some .int) rm_X7_changes [.ref (ad Z 32 0), .int a1, .int a2] cm mm lm (some (.int r.1)) cm r.2 lm := by
  refine Ct_of (own := RX7) [some (.ref (ad Z 32 0)), some (.int a1), some (.int a2), none] ⟨by decide, rfl⟩ rfl (Nat.le_of_ble_eq_true rfl) rfl (fun X hX hF => ?_)
  have g : G (fun r : Int32 × MM => Fx Z X (some .int) (some (.int r.1)) cm r.2 lm) (f_X7_changes mm a1 a2) (J Z X 4 cm mm lm 0 [some (.ref (ad Z 32 0)), some (.int a1), some (.int a2), none] []) := by
    unfold f_X7_changes
    refine g_aload_n hX dX7_changes_0 rfl rfl ?_
    refine g_callV hX (As := []) (fun _ => none) (fun _ => cm) (fun r => r) (fun _ => lm) (fun r hr => c_X7_keep  hr) mi_X7_keep ml_7_77 p7_0 e7_0 rfl rfl rfl rfl rfl (Nat.le_of_ble_eq_true rfl) dX7_changes_1 ?_
    intro r1 hr1
    refine g_aload_n hX dX7_changes_4 rfl rfl ?_
    refine g_get hX fi_7_7 p7_0 e7_0 rfl dX7_changes_5 ?_
    refine g_iload_n hX dX7_changes_8 rfl rfl ?_
    refine g_iald hX p7_1 e7_1 dX7_changes_9 ?_
    intro x9 hx9
    refine g_istore_n hX dX7_changes_10 rfl (Nat.le_of_ble_eq_true rfl) rfl ?_
    refine g_aload_n hX dX7_changes_11 rfl rfl ?_
    refine g_get hX fi_7_7 p7_0 e7_0 rfl dX7_changes_12 ?_
    refine g_iload_n hX dX7_changes_15 rfl rfl ?_
    refine g_iload_n hX dX7_changes_16 rfl rfl ?_
    refine g_iastM hX p7_1 (s7_1 Z _) dX7_changes_17 ?_
    intro g17 hg17
    refine g_iload_n hX dX7_changes_18 rfl rfl ?_
    exact g_iret hX (fun h => h) dX7_changes_19
  exact g r h hF

def f_X7_forgets (mm : MM) (a1 : Int32) : Option (MM) :=
  (f_X7_become mm a1 5 (-9)).bind fun r5 =>
  (f_X7_become r5 a1 6 (-9)).bind fun r14 =>
  (f_X7_become r14 a1 7 (-9)).bind fun r23 =>
  some r23

abbrev rm_X7_forgets : Room := { frames := 1, cells := 0, slots := 0, locals := 23 }
set_option maxHeartbeats 2000000 in
set_option maxRecDepth 20000 in
theorem c_X7_forgets {Z : ZC} {cm : CM} {mm : MM} {lm : LM} {a1 : Int32} {r : MM}  (h : f_X7_forgets mm a1 = some r) : Ct Z yX7_forgets cX7_forgets 2 none rm_X7_forgets [.ref (ad Z 32 0), .int a1] cm mm lm none cm r lm := by
  refine Ct_of (own := RX7) [some (.ref (ad Z 32 0)), some (.int a1)] ⟨by decide, rfl⟩ rfl (Nat.le_of_ble_eq_true rfl) rfl (fun X hX hF => ?_)
  have g : G (fun r : MM => Fx Z X none none cm r lm) (f_X7_forgets mm a1) (J Z X 2 cm mm lm 0 [some (.ref (ad Z 32 0)), some (.int a1)] []) := by
    unfold f_X7_forgets
    refine g_aload_n hX dX7_forgets_0 rfl rfl ?_
    refine g_iload_n hX dX7_forgets_1 rfl rfl ?_
    refine g_iconst hX dX7_forgets_2 ic_5 ?_
    refine g_bipush hX dX7_forgets_3 bp_m9 ?_
    refine g_callV hX (As := [.int a1, .int 5, .int (-9)]) (fun _ => none) (fun _ => cm) (fun r => r) (fun _ => lm) (fun r hr => c_X7_become  hr) mi_X7_become ml_7_84 p7_0 e7_0 rfl rfl rfl rfl rfl (Nat.le_of_ble_eq_true rfl) dX7_forgets_5 ?_
    intro r5 hr5
    refine g_aload_n hX dX7_forgets_8 rfl rfl ?_
    refine g_iload_n hX dX7_forgets_9 rfl rfl ?_
    refine g_bipush hX dX7_forgets_10 bp_6 ?_
    refine g_bipush hX dX7_forgets_12 bp_m9 ?_
    refine g_callV hX (As := [.int a1, .int 6, .int (-9)]) (fun _ => none) (fun _ => cm) (fun r => r) (fun _ => lm) (fun r hr => c_X7_become  hr) mi_X7_become ml_7_84 p7_0 e7_0 rfl rfl rfl rfl rfl (Nat.le_of_ble_eq_true rfl) dX7_forgets_14 ?_
    intro r14 hr14
    refine g_aload_n hX dX7_forgets_17 rfl rfl ?_
    refine g_iload_n hX dX7_forgets_18 rfl rfl ?_
    refine g_bipush hX dX7_forgets_19 bp_7 ?_
    refine g_bipush hX dX7_forgets_21 bp_m9 ?_
    refine g_callV hX (As := [.int a1, .int 7, .int (-9)]) (fun _ => none) (fun _ => cm) (fun r => r) (fun _ => lm) (fun r hr => c_X7_become  hr) mi_X7_become ml_7_84 p7_0 e7_0 rfl rfl rfl rfl rfl (Nat.le_of_ble_eq_true rfl) dX7_forgets_23 ?_
    intro r23 hr23
    exact g_vret hX (fun h => h) dX7_forgets_26
  exact g r h hF

def f_X7_enter (mm : MM) (a1 a2 a3 a4 : Int32) : Option (Int32 × MM) :=
  (f_X7_within a1 0 99).bind fun x4 =>
  if x4 = 0 then
    some ((-2), mm)
  else
    (f_X7_within a2 0 999).bind fun x15 =>
    if x15 = 0 then
      some ((-2), mm)
    else
      (f_X7_isKind a3).bind fun x22 =>
      if x22 = 0 then
        some ((-2), mm)
      else
        (f_X7_within a4 0 15).bind fun x33 =>
        if x33 = 0 then
          some ((-2), mm)
        else
          (rd 159 (mm 1) 157).bind fun x49 =>
          if x49 = 16 then
            some ((-4), mm)
          else
            (f_X7_keep mm).bind fun r59 =>
            (rd 159 (r59 1) 157).bind fun x69 =>
            (wr 159 (r59 1) 157 (x69 + 1)).bind fun g83 =>
            (f_X7_become (u2 r59 1 g83) x69 0 a1).bind fun r89 =>
            (f_X7_become r89 x69 1 a2).bind fun r97 =>
            (f_X7_become r97 x69 2 a3).bind fun r105 =>
            (f_X7_become r105 x69 3 a4).bind fun r114 =>
            (f_X7_become r114 x69 4 0).bind fun r122 =>
            (f_X7_forgets r122 x69).bind fun r128 =>
            some (x69, r128)

abbrev rm_X7_enter : Room := { frames := 2, cells := 0, slots := 0, locals := 44 }
set_option maxHeartbeats 2000000 in
set_option maxRecDepth 20000 in
theorem c_X7_enter {Z : ZC} {cm : CM} {mm : MM} {lm : LM} {a1 a2 a3 a4 : Int32} {r : Int32 × MM}  (h : f_X7_enter mm a1 a2 a3 a4 = some r) : Ct Z yX7_enter cX7_enter 6 (some .int) rm_X7_enter [.ref (ad Z 32 0), .int a1, .int a2, .int a3, .int a4] cm mm lm (some (.int r.1)) cm r.2 lm := by
  refine Ct_of (own := RX7) [some (.ref (ad Z 32 0)), some (.int a1), some (.int a2), some (.int a3), some (.int a4), none] ⟨by decide, rfl⟩ rfl (Nat.le_of_ble_eq_true rfl) rfl (fun X hX hF => ?_)
  have g : G (fun r : Int32 × MM => Fx Z X (some .int) (some (.int r.1)) cm r.2 lm) (f_X7_enter mm a1 a2 a3 a4) (J Z X 6 cm mm lm 0 [some (.ref (ad Z 32 0)), some (.int a1), some (.int a2), some (.int a3), some (.int a4), none] []) := by
    unfold f_X7_enter
    refine g_iload_n hX dX7_enter_0 rfl rfl ?_
    refine g_iconst hX dX7_enter_1 ic_0 ?_
    refine g_bipush hX dX7_enter_2 bp_99 ?_
    refine g_callS hX (As := [.int a1, .int 0, .int 99]) (fun r => (some (.int r))) (fun _ => cm) (fun _ => mm) (fun _ => lm) (fun r hr => c_X7_within  hr) mi_X7_within ml_7_66 rfl rfl rfl (Nat.le_of_ble_eq_true rfl) dX7_enter_4 ?_
    intro x4 hx4
    refine g_if_eq hX dX7_enter_7 (fun h7 => ?_) (fun h7 => ?_)
    · refine g_bipush hX dX7_enter_39 bp_m2 ?_
      exact g_iret hX (fun h => h) dX7_enter_41
    · refine g_iload_n hX dX7_enter_10 rfl rfl ?_
      refine g_iconst hX dX7_enter_11 ic_0 ?_
      refine g_sipush hX dX7_enter_12 sp_999 ?_
      refine g_callS hX (As := [.int a2, .int 0, .int 999]) (fun r => (some (.int r))) (fun _ => cm) (fun _ => mm) (fun _ => lm) (fun r hr => c_X7_within  hr) mi_X7_within ml_7_66 rfl rfl rfl (Nat.le_of_ble_eq_true rfl) dX7_enter_15 ?_
      intro x15 hx15
      refine g_if_eq hX dX7_enter_18 (fun h18 => ?_) (fun h18 => ?_)
      · refine g_bipush hX dX7_enter_39 bp_m2 ?_
        exact g_iret hX (fun h => h) dX7_enter_41
      · refine g_iload_n hX dX7_enter_21 rfl rfl ?_
        refine g_callS hX (As := [.int a3]) (fun r => (some (.int r))) (fun _ => cm) (fun _ => mm) (fun _ => lm) (fun r hr => c_X7_isKind  hr) mi_X7_isKind ml_7_80 rfl rfl rfl (Nat.le_of_ble_eq_true rfl) dX7_enter_22 ?_
        intro x22 hx22
        refine g_if_eq hX dX7_enter_25 (fun h25 => ?_) (fun h25 => ?_)
        · refine g_bipush hX dX7_enter_39 bp_m2 ?_
          exact g_iret hX (fun h => h) dX7_enter_41
        · refine g_iload hX dX7_enter_28 rfl ?_
          refine g_iconst hX dX7_enter_30 ic_0 ?_
          refine g_bipush hX dX7_enter_31 bp_15 ?_
          refine g_callS hX (As := [.int a4, .int 0, .int 15]) (fun r => (some (.int r))) (fun _ => cm) (fun _ => mm) (fun _ => lm) (fun r hr => c_X7_within  hr) mi_X7_within ml_7_66 rfl rfl rfl (Nat.le_of_ble_eq_true rfl) dX7_enter_33 ?_
          intro x33 hx33
          refine g_if_ne hX dX7_enter_36 (fun h36 => ?_) (fun h36 => ?_)
          · refine g_bipush hX dX7_enter_39 bp_m2 ?_
            exact g_iret hX (fun h => h) dX7_enter_41
          · refine g_aload_n hX dX7_enter_42 rfl rfl ?_
            refine g_get hX fi_7_7 p7_0 e7_0 rfl dX7_enter_43 ?_
            refine g_sipush hX dX7_enter_46 sp_157 ?_
            refine g_iald hX p7_1 e7_1 dX7_enter_49 ?_
            intro x49 hx49
            refine g_bipush hX dX7_enter_50 bp_16 ?_
            refine g_icmp_ne hX dX7_enter_52 (fun h52 => ?_) (fun h52 => ?_)
            · refine g_bipush hX dX7_enter_55 bp_m4 ?_
              exact g_iret hX (fun h => h) dX7_enter_57
            · refine g_aload_n hX dX7_enter_58 rfl rfl ?_
              refine g_callV hX (As := []) (fun _ => none) (fun _ => cm) (fun r => r) (fun _ => lm) (fun r hr => c_X7_keep  hr) mi_X7_keep ml_7_77 p7_0 e7_0 rfl rfl rfl rfl rfl (Nat.le_of_ble_eq_true rfl) dX7_enter_59 ?_
              intro r59 hr59
              refine g_aload_n hX dX7_enter_62 rfl rfl ?_
              refine g_get hX fi_7_7 p7_0 e7_0 rfl dX7_enter_63 ?_
              refine g_sipush hX dX7_enter_66 sp_157 ?_
              refine g_iald hX p7_1 e7_1 dX7_enter_69 ?_
              intro x69 hx69
              refine g_istore hX dX7_enter_70 (Nat.le_of_ble_eq_true rfl) rfl ?_
              refine g_aload_n hX dX7_enter_72 rfl rfl ?_
              refine g_get hX fi_7_7 p7_0 e7_0 rfl dX7_enter_73 ?_
              refine g_sipush hX dX7_enter_76 sp_157 ?_
              refine g_iload hX dX7_enter_79 rfl ?_
              refine g_iconst hX dX7_enter_81 ic_1 ?_
              refine g_iadd hX dX7_enter_82 ?_
              refine g_iastM hX p7_1 (s7_1 Z _) dX7_enter_83 ?_
              intro g83 hg83
              refine g_aload_n hX dX7_enter_84 rfl rfl ?_
              refine g_iload hX dX7_enter_85 rfl ?_
              refine g_iconst hX dX7_enter_87 ic_0 ?_
              refine g_iload_n hX dX7_enter_88 rfl rfl ?_
              refine g_callV hX (As := [.int x69, .int 0, .int a1]) (fun _ => none) (fun _ => cm) (fun r => r) (fun _ => lm) (fun r hr => c_X7_become  hr) mi_X7_become ml_7_84 p7_0 e7_0 rfl rfl rfl rfl rfl (Nat.le_of_ble_eq_true rfl) dX7_enter_89 ?_
              intro r89 hr89
              refine g_aload_n hX dX7_enter_92 rfl rfl ?_
              refine g_iload hX dX7_enter_93 rfl ?_
              refine g_iconst hX dX7_enter_95 ic_1 ?_
              refine g_iload_n hX dX7_enter_96 rfl rfl ?_
              refine g_callV hX (As := [.int x69, .int 1, .int a2]) (fun _ => none) (fun _ => cm) (fun r => r) (fun _ => lm) (fun r hr => c_X7_become  hr) mi_X7_become ml_7_84 p7_0 e7_0 rfl rfl rfl rfl rfl (Nat.le_of_ble_eq_true rfl) dX7_enter_97 ?_
              intro r97 hr97
              refine g_aload_n hX dX7_enter_100 rfl rfl ?_
              refine g_iload hX dX7_enter_101 rfl ?_
              refine g_iconst hX dX7_enter_103 ic_2 ?_
              refine g_iload_n hX dX7_enter_104 rfl rfl ?_
              refine g_callV hX (As := [.int x69, .int 2, .int a3]) (fun _ => none) (fun _ => cm) (fun r => r) (fun _ => lm) (fun r hr => c_X7_become  hr) mi_X7_become ml_7_84 p7_0 e7_0 rfl rfl rfl rfl rfl (Nat.le_of_ble_eq_true rfl) dX7_enter_105 ?_
              intro r105 hr105
              refine g_aload_n hX dX7_enter_108 rfl rfl ?_
              refine g_iload hX dX7_enter_109 rfl ?_
              refine g_iconst hX dX7_enter_111 ic_3 ?_
              refine g_iload hX dX7_enter_112 rfl ?_
              refine g_callV hX (As := [.int x69, .int 3, .int a4]) (fun _ => none) (fun _ => cm) (fun r => r) (fun _ => lm) (fun r hr => c_X7_become  hr) mi_X7_become ml_7_84 p7_0 e7_0 rfl rfl rfl rfl rfl (Nat.le_of_ble_eq_true rfl) dX7_enter_114 ?_
              intro r114 hr114
              refine g_aload_n hX dX7_enter_117 rfl rfl ?_
              refine g_iload hX dX7_enter_118 rfl ?_
              refine g_iconst hX dX7_enter_120 ic_4 ?_
              refine g_iconst hX dX7_enter_121 ic_0 ?_
              refine g_callV hX (As := [.int x69, .int 4, .int 0]) (fun _ => none) (fun _ => cm) (fun r => r) (fun _ => lm) (fun r hr => c_X7_become  hr) mi_X7_become ml_7_84 p7_0 e7_0 rfl rfl rfl rfl rfl (Nat.le_of_ble_eq_true rfl) dX7_enter_122 ?_
              intro r122 hr122
              refine g_aload_n hX dX7_enter_125 rfl rfl ?_
              refine g_iload hX dX7_enter_126 rfl ?_
              refine g_callV hX (As := [.int x69]) (fun _ => none) (fun _ => cm) (fun r => r) (fun _ => lm) (fun r hr => c_X7_forgets  hr) mi_X7_forgets ml_7_88 p7_0 e7_0 rfl rfl rfl rfl rfl (Nat.le_of_ble_eq_true rfl) dX7_enter_128 ?_
              intro r128 hr128
              refine g_iload hX dX7_enter_131 rfl ?_
              exact g_iret hX (fun h => h) dX7_enter_133
  exact g r h hF

def f_X7_personal (mm : MM) (a1 a2 a3 a4 : Int32) : Option (Int32 × MM) :=
  (f_X7_isPerson mm a1).bind fun x2 =>
  if x2 = 0 then
    some ((-1), mm)
  else
    (f_X7_within a3 0 a4).bind fun x14 =>
    if x14 = 0 then
      some ((-2), mm)
    else
      (f_X7_changes mm ((8 * a1) + a2) a3).bind fun r31 =>
      some (r31.1, r31.2)

abbrev rm_X7_personal : Room := { frames := 2, cells := 0, slots := 0, locals := 44 }
set_option maxHeartbeats 2000000 in
set_option maxRecDepth 20000 in
theorem c_X7_personal {Z : ZC} {cm : CM} {mm : MM} {lm : LM} {a1 a2 a3 a4 : Int32} {r : Int32 × MM}  (h : f_X7_personal mm a1 a2 a3 a4 = some r) : Ct Z yX7_personal cX7_personal 5 (some .int) rm_X7_personal [.ref (ad Z 32 0), .int a1, .int a2, .int a3, .int a4] cm mm lm (some (.int r.1)) cm r.2 lm := by
  refine Ct_of (own := RX7) [some (.ref (ad Z 32 0)), some (.int a1), some (.int a2), some (.int a3), some (.int a4)] ⟨by decide, rfl⟩ rfl (Nat.le_of_ble_eq_true rfl) rfl (fun X hX hF => ?_)
  have g : G (fun r : Int32 × MM => Fx Z X (some .int) (some (.int r.1)) cm r.2 lm) (f_X7_personal mm a1 a2 a3 a4) (J Z X 5 cm mm lm 0 [some (.ref (ad Z 32 0)), some (.int a1), some (.int a2), some (.int a3), some (.int a4)] []) := by
    unfold f_X7_personal
    refine g_aload_n hX dX7_personal_0 rfl rfl ?_
    refine g_iload_n hX dX7_personal_1 rfl rfl ?_
    refine g_callV hX (As := [.int a1]) (fun r => (some (.int r))) (fun _ => cm) (fun _ => mm) (fun _ => lm) (fun r hr => c_X7_isPerson  hr) mi_X7_isPerson ml_7_92 p7_0 e7_0 rfl rfl rfl rfl rfl (Nat.le_of_ble_eq_true rfl) dX7_personal_2 ?_
    intro x2 hx2
    refine g_if_ne hX dX7_personal_5 (fun h5 => ?_) (fun h5 => ?_)
    · refine g_iconst hX dX7_personal_8 ic_m1 ?_
      exact g_iret hX (fun h => h) dX7_personal_9
    · refine g_iload_n hX dX7_personal_10 rfl rfl ?_
      refine g_iconst hX dX7_personal_11 ic_0 ?_
      refine g_iload hX dX7_personal_12 rfl ?_
      refine g_callS hX (As := [.int a3, .int 0, .int a4]) (fun r => (some (.int r))) (fun _ => cm) (fun _ => mm) (fun _ => lm) (fun r hr => c_X7_within  hr) mi_X7_within ml_7_66 rfl rfl rfl (Nat.le_of_ble_eq_true rfl) dX7_personal_14 ?_
      intro x14 hx14
      refine g_if_ne hX dX7_personal_17 (fun h17 => ?_) (fun h17 => ?_)
      · refine g_bipush hX dX7_personal_20 bp_m2 ?_
        exact g_iret hX (fun h => h) dX7_personal_22
      · refine g_aload_n hX dX7_personal_23 rfl rfl ?_
        refine g_bipush hX dX7_personal_24 bp_8 ?_
        refine g_iload_n hX dX7_personal_26 rfl rfl ?_
        refine g_imul hX dX7_personal_27 ?_
        refine g_iload_n hX dX7_personal_28 rfl rfl ?_
        refine g_iadd hX dX7_personal_29 ?_
        refine g_iload_n hX dX7_personal_30 rfl rfl ?_
        refine g_callV hX (As := [.int ((8 * a1) + a2), .int a3]) (fun r => (some (.int r.1))) (fun _ => cm) (fun r => r.2) (fun _ => lm) (fun r hr => c_X7_changes  hr) mi_X7_changes ml_7_95 p7_0 e7_0 rfl rfl rfl rfl rfl (Nat.le_of_ble_eq_true rfl) dX7_personal_31 ?_
        intro r31 hr31
        exact g_iret hX (fun h => h) dX7_personal_34
  exact g r h hF

def f_X7_mark (mm : MM) (a1 a2 : Int32) : Option (Int32 × MM) :=
  (f_X7_personal mm a1 0 a2 99).bind fun r6 =>
  some (r6.1, r6.2)

abbrev rm_X7_mark : Room := { frames := 3, cells := 0, slots := 0, locals := 68 }
set_option maxHeartbeats 2000000 in
set_option maxRecDepth 20000 in
theorem c_X7_mark {Z : ZC} {cm : CM} {mm : MM} {lm : LM} {a1 a2 : Int32} {r : Int32 × MM}  (h : f_X7_mark mm a1 a2 = some r) : Ct Z yX7_mark cX7_mark 3 (some .int) rm_X7_mark [.ref (ad Z 32 0), .int a1, .int a2] cm mm lm (some (.int r.1)) cm r.2 lm := by
  refine Ct_of (own := RX7) [some (.ref (ad Z 32 0)), some (.int a1), some (.int a2)] ⟨by decide, rfl⟩ rfl (Nat.le_of_ble_eq_true rfl) rfl (fun X hX hF => ?_)
  have g : G (fun r : Int32 × MM => Fx Z X (some .int) (some (.int r.1)) cm r.2 lm) (f_X7_mark mm a1 a2) (J Z X 3 cm mm lm 0 [some (.ref (ad Z 32 0)), some (.int a1), some (.int a2)] []) := by
    unfold f_X7_mark
    refine g_aload_n hX dX7_mark_0 rfl rfl ?_
    refine g_iload_n hX dX7_mark_1 rfl rfl ?_
    refine g_iconst hX dX7_mark_2 ic_0 ?_
    refine g_iload_n hX dX7_mark_3 rfl rfl ?_
    refine g_bipush hX dX7_mark_4 bp_99 ?_
    refine g_callV hX (As := [.int a1, .int 0, .int a2, .int 99]) (fun r => (some (.int r.1))) (fun _ => cm) (fun r => r.2) (fun _ => lm) (fun r hr => c_X7_personal  hr) mi_X7_personal ml_7_99 p7_0 e7_0 rfl rfl rfl rfl rfl (Nat.le_of_ble_eq_true rfl) dX7_mark_6 ?_
    intro r6 hr6
    exact g_iret hX (fun h => h) dX7_mark_9
  exact g r h hF

def f_X7_ticket (mm : MM) (a1 a2 : Int32) : Option (Int32 × MM) :=
  (f_X7_personal mm a1 1 a2 999).bind fun r7 =>
  some (r7.1, r7.2)

abbrev rm_X7_ticket : Room := { frames := 3, cells := 0, slots := 0, locals := 68 }
set_option maxHeartbeats 2000000 in
set_option maxRecDepth 20000 in
theorem c_X7_ticket {Z : ZC} {cm : CM} {mm : MM} {lm : LM} {a1 a2 : Int32} {r : Int32 × MM}  (h : f_X7_ticket mm a1 a2 = some r) : Ct Z yX7_ticket cX7_ticket 3 (some .int) rm_X7_ticket [.ref (ad Z 32 0), .int a1, .int a2] cm mm lm (some (.int r.1)) cm r.2 lm := by
  refine Ct_of (own := RX7) [some (.ref (ad Z 32 0)), some (.int a1), some (.int a2)] ⟨by decide, rfl⟩ rfl (Nat.le_of_ble_eq_true rfl) rfl (fun X hX hF => ?_)
  have g : G (fun r : Int32 × MM => Fx Z X (some .int) (some (.int r.1)) cm r.2 lm) (f_X7_ticket mm a1 a2) (J Z X 3 cm mm lm 0 [some (.ref (ad Z 32 0)), some (.int a1), some (.int a2)] []) := by
    unfold f_X7_ticket
    refine g_aload_n hX dX7_ticket_0 rfl rfl ?_
    refine g_iload_n hX dX7_ticket_1 rfl rfl ?_
    refine g_iconst hX dX7_ticket_2 ic_1 ?_
    refine g_iload_n hX dX7_ticket_3 rfl rfl ?_
    refine g_sipush hX dX7_ticket_4 sp_999 ?_
    refine g_callV hX (As := [.int a1, .int 1, .int a2, .int 999]) (fun r => (some (.int r.1))) (fun _ => cm) (fun r => r.2) (fun _ => lm) (fun r hr => c_X7_personal  hr) mi_X7_personal ml_7_99 p7_0 e7_0 rfl rfl rfl rfl rfl (Nat.le_of_ble_eq_true rfl) dX7_ticket_7 ?_
    intro r7 hr7
    exact g_iret hX (fun h => h) dX7_ticket_10
  exact g r h hF

def f_X7_kind (mm : MM) (a1 a2 : Int32) : Option (Int32 × MM) :=
  (f_X7_personal mm a1 2 a2 3).bind fun r5 =>
  some (r5.1, r5.2)

abbrev rm_X7_kind : Room := { frames := 3, cells := 0, slots := 0, locals := 68 }
set_option maxHeartbeats 2000000 in
set_option maxRecDepth 20000 in
theorem c_X7_kind {Z : ZC} {cm : CM} {mm : MM} {lm : LM} {a1 a2 : Int32} {r : Int32 × MM}  (h : f_X7_kind mm a1 a2 = some r) : Ct Z yX7_kind cX7_kind 3 (some .int) rm_X7_kind [.ref (ad Z 32 0), .int a1, .int a2] cm mm lm (some (.int r.1)) cm r.2 lm := by
  refine Ct_of (own := RX7) [some (.ref (ad Z 32 0)), some (.int a1), some (.int a2)] ⟨by decide, rfl⟩ rfl (Nat.le_of_ble_eq_true rfl) rfl (fun X hX hF => ?_)
  have g : G (fun r : Int32 × MM => Fx Z X (some .int) (some (.int r.1)) cm r.2 lm) (f_X7_kind mm a1 a2) (J Z X 3 cm mm lm 0 [some (.ref (ad Z 32 0)), some (.int a1), some (.int a2)] []) := by
    unfold f_X7_kind
    refine g_aload_n hX dX7_kind_0 rfl rfl ?_
    refine g_iload_n hX dX7_kind_1 rfl rfl ?_
    refine g_iconst hX dX7_kind_2 ic_2 ?_
    refine g_iload_n hX dX7_kind_3 rfl rfl ?_
    refine g_iconst hX dX7_kind_4 ic_3 ?_
    refine g_callV hX (As := [.int a1, .int 2, .int a2, .int 3]) (fun r => (some (.int r.1))) (fun _ => cm) (fun r => r.2) (fun _ => lm) (fun r hr => c_X7_personal  hr) mi_X7_personal ml_7_99 p7_0 e7_0 rfl rfl rfl rfl rfl (Nat.le_of_ble_eq_true rfl) dX7_kind_5 ?_
    intro r5 hr5
    exact g_iret hX (fun h => h) dX7_kind_8
  exact g r h hF

def f_X7_groups (mm : MM) (a1 a2 : Int32) : Option (Int32 × MM) :=
  (f_X7_personal mm a1 3 a2 15).bind fun r6 =>
  some (r6.1, r6.2)

abbrev rm_X7_groups : Room := { frames := 3, cells := 0, slots := 0, locals := 68 }
set_option maxHeartbeats 2000000 in
set_option maxRecDepth 20000 in
theorem c_X7_groups {Z : ZC} {cm : CM} {mm : MM} {lm : LM} {a1 a2 : Int32} {r : Int32 × MM}  (h : f_X7_groups mm a1 a2 = some r) : Ct Z yX7_groups cX7_groups 3 (some .int) rm_X7_groups [.ref (ad Z 32 0), .int a1, .int a2] cm mm lm (some (.int r.1)) cm r.2 lm := by
  refine Ct_of (own := RX7) [some (.ref (ad Z 32 0)), some (.int a1), some (.int a2)] ⟨by decide, rfl⟩ rfl (Nat.le_of_ble_eq_true rfl) rfl (fun X hX hF => ?_)
  have g : G (fun r : Int32 × MM => Fx Z X (some .int) (some (.int r.1)) cm r.2 lm) (f_X7_groups mm a1 a2) (J Z X 3 cm mm lm 0 [some (.ref (ad Z 32 0)), some (.int a1), some (.int a2)] []) := by
    unfold f_X7_groups
    refine g_aload_n hX dX7_groups_0 rfl rfl ?_
    refine g_iload_n hX dX7_groups_1 rfl rfl ?_
    refine g_iconst hX dX7_groups_2 ic_3 ?_
    refine g_iload_n hX dX7_groups_3 rfl rfl ?_
    refine g_bipush hX dX7_groups_4 bp_15 ?_
    refine g_callV hX (As := [.int a1, .int 3, .int a2, .int 15]) (fun r => (some (.int r.1))) (fun _ => cm) (fun r => r.2) (fun _ => lm) (fun r hr => c_X7_personal  hr) mi_X7_personal ml_7_99 p7_0 e7_0 rfl rfl rfl rfl rfl (Nat.le_of_ble_eq_true rfl) dX7_groups_6 ?_
    intro r6 hr6
    exact g_iret hX (fun h => h) dX7_groups_9
  exact g r h hF

def f_X7_isAhead (mm : MM) (a1 a2 : Int32) : Option (Int32) :=
  (f_X7_of mm a1 0).bind fun x3 =>
  (f_X7_of mm a2 0).bind fun x9 =>
  if x3 = x9 then
    (f_X7_of mm a1 1).bind fun x39 =>
    (f_X7_of mm a2 1).bind fun x45 =>
    if x39 = x45 then
      if a2 ≤ a1 then
        some 0
      else
        some 1
    else
      (f_X7_of mm a1 1).bind fun x54 =>
      (f_X7_of mm a2 1).bind fun x60 =>
      if x60 ≤ x54 then
        some 0
      else
        some 1
  else
    (f_X7_of mm a1 0).bind fun x18 =>
    (f_X7_of mm a2 0).bind fun x24 =>
    if x18 ≤ x24 then
      some 0
    else
      some 1

abbrev rm_X7_isAhead : Room := { frames := 1, cells := 0, slots := 0, locals := 22 }
set_option maxHeartbeats 2000000 in
set_option maxRecDepth 20000 in
theorem c_X7_isAhead {Z : ZC} {cm : CM} {mm : MM} {lm : LM} {a1 a2 : Int32} {r : Int32}  (h : f_X7_isAhead mm a1 a2 = some r) : Ct Z yX7_isAhead cX7_isAhead 3 (some .boolean) rm_X7_isAhead [.ref (ad Z 32 0), .int a1, .int a2] cm mm lm (some (.int r)) cm mm lm := by
  refine Ct_of (own := RX7) [some (.ref (ad Z 32 0)), some (.int a1), some (.int a2)] ⟨by decide, rfl⟩ rfl (Nat.le_of_ble_eq_true rfl) rfl (fun X hX hF => ?_)
  have g : G (fun r : Int32 => Fx Z X (some .boolean) (some (.int r)) cm mm lm) (f_X7_isAhead mm a1 a2) (J Z X 3 cm mm lm 0 [some (.ref (ad Z 32 0)), some (.int a1), some (.int a2)] []) := by
    unfold f_X7_isAhead
    refine g_aload_n hX dX7_isAhead_0 rfl rfl ?_
    refine g_iload_n hX dX7_isAhead_1 rfl rfl ?_
    refine g_iconst hX dX7_isAhead_2 ic_0 ?_
    refine g_callV hX (As := [.int a1, .int 0]) (fun r => (some (.int r))) (fun _ => cm) (fun _ => mm) (fun _ => lm) (fun r hr => c_X7_of  hr) mi_X7_of ml_7_103 p7_0 e7_0 rfl rfl rfl rfl rfl (Nat.le_of_ble_eq_true rfl) dX7_isAhead_3 ?_
    intro x3 hx3
    refine g_aload_n hX dX7_isAhead_6 rfl rfl ?_
    refine g_iload_n hX dX7_isAhead_7 rfl rfl ?_
    refine g_iconst hX dX7_isAhead_8 ic_0 ?_
    refine g_callV hX (As := [.int a2, .int 0]) (fun r => (some (.int r))) (fun _ => cm) (fun _ => mm) (fun _ => lm) (fun r hr => c_X7_of  hr) mi_X7_of ml_7_103 p7_0 e7_0 rfl rfl rfl rfl rfl (Nat.le_of_ble_eq_true rfl) dX7_isAhead_9 ?_
    intro x9 hx9
    refine g_icmp_eq hX dX7_isAhead_12 (fun h12 => ?_) (fun h12 => ?_)
    · refine g_aload_n hX dX7_isAhead_36 rfl rfl ?_
      refine g_iload_n hX dX7_isAhead_37 rfl rfl ?_
      refine g_iconst hX dX7_isAhead_38 ic_1 ?_
      refine g_callV hX (As := [.int a1, .int 1]) (fun r => (some (.int r))) (fun _ => cm) (fun _ => mm) (fun _ => lm) (fun r hr => c_X7_of  hr) mi_X7_of ml_7_103 p7_0 e7_0 rfl rfl rfl rfl rfl (Nat.le_of_ble_eq_true rfl) dX7_isAhead_39 ?_
      intro x39 hx39
      refine g_aload_n hX dX7_isAhead_42 rfl rfl ?_
      refine g_iload_n hX dX7_isAhead_43 rfl rfl ?_
      refine g_iconst hX dX7_isAhead_44 ic_1 ?_
      refine g_callV hX (As := [.int a2, .int 1]) (fun r => (some (.int r))) (fun _ => cm) (fun _ => mm) (fun _ => lm) (fun r hr => c_X7_of  hr) mi_X7_of ml_7_103 p7_0 e7_0 rfl rfl rfl rfl rfl (Nat.le_of_ble_eq_true rfl) dX7_isAhead_45 ?_
      intro x45 hx45
      refine g_icmp_eq hX dX7_isAhead_48 (fun h48 => ?_) (fun h48 => ?_)
      · refine g_iload_n hX dX7_isAhead_72 rfl rfl ?_
        refine g_iload_n hX dX7_isAhead_73 rfl rfl ?_
        refine g_icmp_ge hX dX7_isAhead_74 (fun h74 => ?_) (fun h74 => ?_)
        · refine g_iconst hX dX7_isAhead_81 ic_0 ?_
          exact g_zret hX (by decide) (fun h => h) dX7_isAhead_82
        · refine g_iconst hX dX7_isAhead_77 ic_1 ?_
          refine g_goto hX dX7_isAhead_78 ?_
          exact g_zret hX (by decide) (fun h => h) dX7_isAhead_82
      · refine g_aload_n hX dX7_isAhead_51 rfl rfl ?_
        refine g_iload_n hX dX7_isAhead_52 rfl rfl ?_
        refine g_iconst hX dX7_isAhead_53 ic_1 ?_
        refine g_callV hX (As := [.int a1, .int 1]) (fun r => (some (.int r))) (fun _ => cm) (fun _ => mm) (fun _ => lm) (fun r hr => c_X7_of  hr) mi_X7_of ml_7_103 p7_0 e7_0 rfl rfl rfl rfl rfl (Nat.le_of_ble_eq_true rfl) dX7_isAhead_54 ?_
        intro x54 hx54
        refine g_aload_n hX dX7_isAhead_57 rfl rfl ?_
        refine g_iload_n hX dX7_isAhead_58 rfl rfl ?_
        refine g_iconst hX dX7_isAhead_59 ic_1 ?_
        refine g_callV hX (As := [.int a2, .int 1]) (fun r => (some (.int r))) (fun _ => cm) (fun _ => mm) (fun _ => lm) (fun r hr => c_X7_of  hr) mi_X7_of ml_7_103 p7_0 e7_0 rfl rfl rfl rfl rfl (Nat.le_of_ble_eq_true rfl) dX7_isAhead_60 ?_
        intro x60 hx60
        refine g_icmp_ge hX dX7_isAhead_63 (fun h63 => ?_) (fun h63 => ?_)
        · refine g_iconst hX dX7_isAhead_70 ic_0 ?_
          exact g_zret hX (by decide) (fun h => h) dX7_isAhead_71
        · refine g_iconst hX dX7_isAhead_66 ic_1 ?_
          refine g_goto hX dX7_isAhead_67 ?_
          exact g_zret hX (by decide) (fun h => h) dX7_isAhead_71
    · refine g_aload_n hX dX7_isAhead_15 rfl rfl ?_
      refine g_iload_n hX dX7_isAhead_16 rfl rfl ?_
      refine g_iconst hX dX7_isAhead_17 ic_0 ?_
      refine g_callV hX (As := [.int a1, .int 0]) (fun r => (some (.int r))) (fun _ => cm) (fun _ => mm) (fun _ => lm) (fun r hr => c_X7_of  hr) mi_X7_of ml_7_103 p7_0 e7_0 rfl rfl rfl rfl rfl (Nat.le_of_ble_eq_true rfl) dX7_isAhead_18 ?_
      intro x18 hx18
      refine g_aload_n hX dX7_isAhead_21 rfl rfl ?_
      refine g_iload_n hX dX7_isAhead_22 rfl rfl ?_
      refine g_iconst hX dX7_isAhead_23 ic_0 ?_
      refine g_callV hX (As := [.int a2, .int 0]) (fun r => (some (.int r))) (fun _ => cm) (fun _ => mm) (fun _ => lm) (fun r hr => c_X7_of  hr) mi_X7_of ml_7_103 p7_0 e7_0 rfl rfl rfl rfl rfl (Nat.le_of_ble_eq_true rfl) dX7_isAhead_24 ?_
      intro x24 hx24
      refine g_icmp_le hX dX7_isAhead_27 (fun h27 => ?_) (fun h27 => ?_)
      · refine g_iconst hX dX7_isAhead_34 ic_0 ?_
        exact g_zret hX (by decide) (fun h => h) dX7_isAhead_35
      · refine g_iconst hX dX7_isAhead_30 ic_1 ?_
        refine g_goto hX dX7_isAhead_31 ?_
        exact g_zret hX (by decide) (fun h => h) dX7_isAhead_35
  exact g r h hF

def f_X7_aheadOf_B4 (mm : MM) (a1 : Int32) (s4_2 : Int32) (s4_3 : Int32) : Option ((Int32 × Int32) ⊕ (Int32 × Int32)) :=
  (rd 159 (mm 1) 157).bind fun x12 =>
  if x12 ≤ s4_3 then
    some (.inl (s4_2, s4_3))
  else
    (f_X7_isAhead mm s4_3 a1).bind fun x20 =>
    if x20 = 0 then
      some (.inr (s4_2 + 0, s4_3 + 1))
    else
      some (.inr (s4_2 + 1, s4_3 + 1))

def f_X7_aheadOf (mm : MM) (a1 : Int32) : Option (Int32) :=
  (itr (fun s : Int32 × Int32 => f_X7_aheadOf_B4 mm a1 s.1 s.2) 2000 (0, 0)).bind fun (s4_2, s4_3) =>
  some s4_2

abbrev rm_X7_aheadOf : Room := { frames := 2, cells := 0, slots := 0, locals := 44 }
set_option maxHeartbeats 2000000 in
set_option maxRecDepth 20000 in
theorem c_X7_aheadOf {Z : ZC} {cm : CM} {mm : MM} {lm : LM} {a1 : Int32} {r : Int32}  (h : f_X7_aheadOf mm a1 = some r) : Ct Z yX7_aheadOf cX7_aheadOf 4 (some .int) rm_X7_aheadOf [.ref (ad Z 32 0), .int a1] cm mm lm (some (.int r)) cm mm lm := by
  refine Ct_of (own := RX7) [some (.ref (ad Z 32 0)), some (.int a1), none, none] ⟨by decide, rfl⟩ rfl (Nat.le_of_ble_eq_true rfl) rfl (fun X hX hF => ?_)
  have g : G (fun r : Int32 => Fx Z X (some .int) (some (.int r)) cm mm lm) (f_X7_aheadOf mm a1) (J Z X 4 cm mm lm 0 [some (.ref (ad Z 32 0)), some (.int a1), none, none] []) := by
    unfold f_X7_aheadOf
    refine g_iconst hX dX7_aheadOf_0 ic_0 ?_
    refine g_istore_n hX dX7_aheadOf_1 rfl (Nat.le_of_ble_eq_true rfl) rfl ?_
    refine g_iconst hX dX7_aheadOf_2 ic_0 ?_
    refine g_istore_n hX dX7_aheadOf_3 rfl (Nat.le_of_ble_eq_true rfl) rfl ?_
    refine g_loop (Hd := fun s : Int32 × Int32 => J Z X 4 cm mm lm 4 [some (.ref (ad Z 32 0)), some (.int a1), some (.int s.1), some (.int s.2)] []) (Ex := fun s : Int32 × Int32 => J Z X 4 cm mm lm 39 [some (.ref (ad Z 32 0)), some (.int a1), some (.int s.1), some (.int s.2)] []) ?_ ?_
    · rintro ⟨s4_2, s4_3⟩
      show G _ (f_X7_aheadOf_B4 mm a1 s4_2 s4_3) (J Z X 4 cm mm lm 4 [some (.ref (ad Z 32 0)), some (.int a1), some (.int s4_2), some (.int s4_3)] [])
      unfold f_X7_aheadOf_B4
      refine g_iload_n hX dX7_aheadOf_4 rfl rfl ?_
      refine g_aload_n hX dX7_aheadOf_5 rfl rfl ?_
      refine g_get hX fi_7_7 p7_0 e7_0 rfl dX7_aheadOf_6 ?_
      refine g_sipush hX dX7_aheadOf_9 sp_157 ?_
      refine g_iald hX p7_1 e7_1 dX7_aheadOf_12 ?_
      intro x12 hx12
      refine g_icmp_ge hX dX7_aheadOf_13 (fun h13 => ?_) (fun h13 => ?_)
      · exact g_wk (lv0 := [some (.ref (ad Z 32 0)), some (.int a1), some (.int s4_2), some (.int s4_3)]) ⟨rfl, rfl, rfl, rfl, trivial⟩ (g_end (fun h => h))
      · refine g_iload_n hX dX7_aheadOf_16 rfl rfl ?_
        refine g_aload_n hX dX7_aheadOf_17 rfl rfl ?_
        refine g_iload_n hX dX7_aheadOf_18 rfl rfl ?_
        refine g_iload_n hX dX7_aheadOf_19 rfl rfl ?_
        refine g_callV hX (As := [.int s4_3, .int a1]) (fun r => (some (.int r))) (fun _ => cm) (fun _ => mm) (fun _ => lm) (fun r hr => c_X7_isAhead  hr) mi_X7_isAhead ml_7_106 p7_0 e7_0 rfl rfl rfl rfl rfl (Nat.le_of_ble_eq_true rfl) dX7_aheadOf_20 ?_
        intro x20 hx20
        refine g_if_eq hX dX7_aheadOf_23 (fun h23 => ?_) (fun h23 => ?_)
        · refine g_iconst hX dX7_aheadOf_30 ic_0 ?_
          refine g_iadd hX dX7_aheadOf_31 ?_
          refine g_istore_n hX dX7_aheadOf_32 rfl (Nat.le_of_ble_eq_true rfl) rfl ?_
          refine g_iinc hX dX7_aheadOf_33 ic_1 rfl (Nat.le_of_ble_eq_true rfl) rfl ?_
          refine g_goto hX dX7_aheadOf_36 ?_
          exact g_wk (lv0 := [some (.ref (ad Z 32 0)), some (.int a1), some (.int (s4_2 + 0)), some (.int (s4_3 + 1))]) ⟨rfl, rfl, rfl, rfl, trivial⟩ (g_end (fun h => h))
        · refine g_iconst hX dX7_aheadOf_26 ic_1 ?_
          refine g_goto hX dX7_aheadOf_27 ?_
          refine g_iadd hX dX7_aheadOf_31 ?_
          refine g_istore_n hX dX7_aheadOf_32 rfl (Nat.le_of_ble_eq_true rfl) rfl ?_
          refine g_iinc hX dX7_aheadOf_33 ic_1 rfl (Nat.le_of_ble_eq_true rfl) rfl ?_
          refine g_goto hX dX7_aheadOf_36 ?_
          exact g_wk (lv0 := [some (.ref (ad Z 32 0)), some (.int a1), some (.int (s4_2 + 1)), some (.int (s4_3 + 1))]) ⟨rfl, rfl, rfl, rfl, trivial⟩ (g_end (fun h => h))
    · rintro ⟨s4_2, s4_3⟩
      show G _ _ (J Z X 4 cm mm lm 39 [some (.ref (ad Z 32 0)), some (.int a1), some (.int s4_2), some (.int s4_3)] [])
      refine g_iload_n hX dX7_aheadOf_39 rfl rfl ?_
      exact g_iret hX (fun h => h) dX7_aheadOf_40
  exact g r h hF

def f_X7_ofPerson (mm : MM) (a1 a2 : Int32) : Option (Int32) :=
  (f_X7_isPerson mm a1).bind fun x2 =>
  if x2 = 0 then
    some (-1)
  else
    (f_X7_within a2 0 5).bind fun x13 =>
    if x13 = 0 then
      some (-2)
    else
      if a2 = 5 then
        (f_X7_aheadOf mm a1).bind fun x29 =>
        some x29
      else
        (f_X7_of mm a1 a2).bind fun x38 =>
        some x38

abbrev rm_X7_ofPerson : Room := { frames := 3, cells := 0, slots := 0, locals := 67 }
set_option maxHeartbeats 2000000 in
set_option maxRecDepth 20000 in
theorem c_X7_ofPerson {Z : ZC} {cm : CM} {mm : MM} {lm : LM} {a1 a2 : Int32} {r : Int32}  (h : f_X7_ofPerson mm a1 a2 = some r) : Ct Z yX7_ofPerson cX7_ofPerson 3 (some .int) rm_X7_ofPerson [.ref (ad Z 32 0), .int a1, .int a2] cm mm lm (some (.int r)) cm mm lm := by
  refine Ct_of (own := RX7) [some (.ref (ad Z 32 0)), some (.int a1), some (.int a2)] ⟨by decide, rfl⟩ rfl (Nat.le_of_ble_eq_true rfl) rfl (fun X hX hF => ?_)
  have g : G (fun r : Int32 => Fx Z X (some .int) (some (.int r)) cm mm lm) (f_X7_ofPerson mm a1 a2) (J Z X 3 cm mm lm 0 [some (.ref (ad Z 32 0)), some (.int a1), some (.int a2)] []) := by
    unfold f_X7_ofPerson
    refine g_aload_n hX dX7_ofPerson_0 rfl rfl ?_
    refine g_iload_n hX dX7_ofPerson_1 rfl rfl ?_
    refine g_callV hX (As := [.int a1]) (fun r => (some (.int r))) (fun _ => cm) (fun _ => mm) (fun _ => lm) (fun r hr => c_X7_isPerson  hr) mi_X7_isPerson ml_7_92 p7_0 e7_0 rfl rfl rfl rfl rfl (Nat.le_of_ble_eq_true rfl) dX7_ofPerson_2 ?_
    intro x2 hx2
    refine g_if_ne hX dX7_ofPerson_5 (fun h5 => ?_) (fun h5 => ?_)
    · refine g_iconst hX dX7_ofPerson_8 ic_m1 ?_
      exact g_iret hX (fun h => h) dX7_ofPerson_9
    · refine g_iload_n hX dX7_ofPerson_10 rfl rfl ?_
      refine g_iconst hX dX7_ofPerson_11 ic_0 ?_
      refine g_iconst hX dX7_ofPerson_12 ic_5 ?_
      refine g_callS hX (As := [.int a2, .int 0, .int 5]) (fun r => (some (.int r))) (fun _ => cm) (fun _ => mm) (fun _ => lm) (fun r hr => c_X7_within  hr) mi_X7_within ml_7_66 rfl rfl rfl (Nat.le_of_ble_eq_true rfl) dX7_ofPerson_13 ?_
      intro x13 hx13
      refine g_if_ne hX dX7_ofPerson_16 (fun h16 => ?_) (fun h16 => ?_)
      · refine g_bipush hX dX7_ofPerson_19 bp_m2 ?_
        exact g_iret hX (fun h => h) dX7_ofPerson_21
      · refine g_iload_n hX dX7_ofPerson_22 rfl rfl ?_
        refine g_iconst hX dX7_ofPerson_23 ic_5 ?_
        refine g_icmp_ne hX dX7_ofPerson_24 (fun h24 => ?_) (fun h24 => ?_)
        · refine g_aload_n hX dX7_ofPerson_27 rfl rfl ?_
          refine g_iload_n hX dX7_ofPerson_28 rfl rfl ?_
          refine g_callV hX (As := [.int a1]) (fun r => (some (.int r))) (fun _ => cm) (fun _ => mm) (fun _ => lm) (fun r hr => c_X7_aheadOf  hr) mi_X7_aheadOf ml_7_110 p7_0 e7_0 rfl rfl rfl rfl rfl (Nat.le_of_ble_eq_true rfl) dX7_ofPerson_29 ?_
          intro x29 hx29
          refine g_goto hX dX7_ofPerson_32 ?_
          exact g_iret hX (fun h => h) dX7_ofPerson_41
        · refine g_aload_n hX dX7_ofPerson_35 rfl rfl ?_
          refine g_iload_n hX dX7_ofPerson_36 rfl rfl ?_
          refine g_iload_n hX dX7_ofPerson_37 rfl rfl ?_
          refine g_callV hX (As := [.int a1, .int a2]) (fun r => (some (.int r))) (fun _ => cm) (fun _ => mm) (fun _ => lm) (fun r hr => c_X7_of  hr) mi_X7_of ml_7_103 p7_0 e7_0 rfl rfl rfl rfl rfl (Nat.le_of_ble_eq_true rfl) dX7_ofPerson_38 ?_
          intro x38 hx38
          exact g_iret hX (fun h => h) dX7_ofPerson_41
  exact g r h hF

def f_X7_ranked_B15 (mm : MM) (a1 : Int32) (s15_2 : Int32) : Option (((Int32) ⊕ (Int32)) ⊕ (Int32)) :=
  (rd 159 (mm 1) 157).bind fun x23 =>
  if x23 ≤ s15_2 then
    some (.inl (.inl s15_2))
  else
    (f_X7_aheadOf mm s15_2).bind fun x29 =>
    if x29 = a1 then
      some (.inl (.inr s15_2))
    else
      some (.inr (s15_2 + 1))

def f_X7_ranked (mm : MM) (a1 : Int32) : Option (Int32) :=
  (f_X7_within a1 0 15).bind fun x4 =>
  if x4 = 0 then
    some (-2)
  else
    (itr (fun s : Int32 => f_X7_ranked_B15 mm a1 s) 2000 0).bind fun ou => match ou with
    | .inr r => some r
    | .inl s15_2 =>
    some (-9)

abbrev rm_X7_ranked : Room := { frames := 3, cells := 0, slots := 0, locals := 67 }
set_option maxHeartbeats 2000000 in
set_option maxRecDepth 20000 in
theorem c_X7_ranked {Z : ZC} {cm : CM} {mm : MM} {lm : LM} {a1 : Int32} {r : Int32}  (h : f_X7_ranked mm a1 = some r) : Ct Z yX7_ranked cX7_ranked 3 (some .int) rm_X7_ranked [.ref (ad Z 32 0), .int a1] cm mm lm (some (.int r)) cm mm lm := by
  refine Ct_of (own := RX7) [some (.ref (ad Z 32 0)), some (.int a1), none] ⟨by decide, rfl⟩ rfl (Nat.le_of_ble_eq_true rfl) rfl (fun X hX hF => ?_)
  have g : G (fun r : Int32 => Fx Z X (some .int) (some (.int r)) cm mm lm) (f_X7_ranked mm a1) (J Z X 3 cm mm lm 0 [some (.ref (ad Z 32 0)), some (.int a1), none] []) := by
    unfold f_X7_ranked
    refine g_iload_n hX dX7_ranked_0 rfl rfl ?_
    refine g_iconst hX dX7_ranked_1 ic_0 ?_
    refine g_bipush hX dX7_ranked_2 bp_15 ?_
    refine g_callS hX (As := [.int a1, .int 0, .int 15]) (fun r => (some (.int r))) (fun _ => cm) (fun _ => mm) (fun _ => lm) (fun r hr => c_X7_within  hr) mi_X7_within ml_7_66 rfl rfl rfl (Nat.le_of_ble_eq_true rfl) dX7_ranked_4 ?_
    intro x4 hx4
    refine g_if_ne hX dX7_ranked_7 (fun h7 => ?_) (fun h7 => ?_)
    · refine g_bipush hX dX7_ranked_10 bp_m2 ?_
      exact g_iret hX (fun h => h) dX7_ranked_12
    · refine g_iconst hX dX7_ranked_13 ic_0 ?_
      refine g_istore_n hX dX7_ranked_14 rfl (Nat.le_of_ble_eq_true rfl) rfl ?_
      refine g_loop (Hd := fun s : Int32 => J Z X 3 cm mm lm 15 [some (.ref (ad Z 32 0)), some (.int a1), some (.int s)] []) (Ex := fun ou : (Int32) ⊕ (Int32) => match ou with | .inl e => J Z X 3 cm mm lm 44 [some (.ref (ad Z 32 0)), some (.int a1), some (.int e)] [] | .inr r => Fx Z X (some .int) (some (.int r)) cm mm lm) ?_ ?_
      · intro s15_2
        show G _ (f_X7_ranked_B15 mm a1 s15_2) (J Z X 3 cm mm lm 15 [some (.ref (ad Z 32 0)), some (.int a1), some (.int s15_2)] [])
        unfold f_X7_ranked_B15
        refine g_iload_n hX dX7_ranked_15 rfl rfl ?_
        refine g_aload_n hX dX7_ranked_16 rfl rfl ?_
        refine g_get hX fi_7_7 p7_0 e7_0 rfl dX7_ranked_17 ?_
        refine g_sipush hX dX7_ranked_20 sp_157 ?_
        refine g_iald hX p7_1 e7_1 dX7_ranked_23 ?_
        intro x23 hx23
        refine g_icmp_ge hX dX7_ranked_24 (fun h24 => ?_) (fun h24 => ?_)
        · exact g_wk (lv0 := [some (.ref (ad Z 32 0)), some (.int a1), some (.int s15_2)]) ⟨rfl, rfl, rfl, trivial⟩ (g_end (fun h => h))
        · refine g_aload_n hX dX7_ranked_27 rfl rfl ?_
          refine g_iload_n hX dX7_ranked_28 rfl rfl ?_
          refine g_callV hX (As := [.int s15_2]) (fun r => (some (.int r))) (fun _ => cm) (fun _ => mm) (fun _ => lm) (fun r hr => c_X7_aheadOf  hr) mi_X7_aheadOf ml_7_110 p7_0 e7_0 rfl rfl rfl rfl rfl (Nat.le_of_ble_eq_true rfl) dX7_ranked_29 ?_
          intro x29 hx29
          refine g_iload_n hX dX7_ranked_32 rfl rfl ?_
          refine g_icmp_ne hX dX7_ranked_33 (fun h33 => ?_) (fun h33 => ?_)
          · refine g_iload_n hX dX7_ranked_36 rfl rfl ?_
            exact g_iret hX (fun h => h) dX7_ranked_37
          · refine g_iinc hX dX7_ranked_38 ic_1 rfl (Nat.le_of_ble_eq_true rfl) rfl ?_
            refine g_goto hX dX7_ranked_41 ?_
            exact g_wk (lv0 := [some (.ref (ad Z 32 0)), some (.int a1), some (.int (s15_2 + 1))]) ⟨rfl, rfl, rfl, trivial⟩ (g_end (fun h => h))
      · rintro (s15_2 | r)
        · show G _ _ (J Z X 3 cm mm lm 44 [some (.ref (ad Z 32 0)), some (.int a1), some (.int s15_2)] [])
          refine g_bipush hX dX7_ranked_44 bp_m9 ?_
          exact g_iret hX (fun h => h) dX7_ranked_46
        · exact g_end (fun h => h)
  exact g r h hF

def f_X7_above_B18 (mm : MM) (a1 : Int32) (s18_2 : Int32) (s18_3 : Int32) : Option ((Int32 × Int32) ⊕ (Int32 × Int32)) :=
  (rd 159 (mm 1) 157).bind fun x26 =>
  if x26 ≤ s18_3 then
    some (.inl (s18_2, s18_3))
  else
    (f_X7_of mm s18_3 0).bind fun x33 =>
    if x33 ≤ a1 then
      some (.inr (s18_2, s18_3 + 1))
    else
      if s18_2 = (-9) then
        some (.inr (x33, s18_3 + 1))
      else
        if s18_2 ≤ x33 then
          some (.inr (s18_2, s18_3 + 1))
        else
          some (.inr (x33, s18_3 + 1))

def f_X7_above (mm : MM) (a1 : Int32) : Option (Int32) :=
  (f_X7_within a1 0 99).bind fun x4 =>
  if x4 = 0 then
    some (-2)
  else
    (itr (fun s : Int32 × Int32 => f_X7_above_B18 mm a1 s.1 s.2) 2000 ((-9), 0)).bind fun (s18_2, s18_3) =>
    some s18_2

abbrev rm_X7_above : Room := { frames := 1, cells := 0, slots := 0, locals := 22 }
set_option maxHeartbeats 2000000 in
set_option maxRecDepth 20000 in
theorem c_X7_above {Z : ZC} {cm : CM} {mm : MM} {lm : LM} {a1 : Int32} {r : Int32}  (h : f_X7_above mm a1 = some r) : Ct Z yX7_above cX7_above 5 (some .int) rm_X7_above [.ref (ad Z 32 0), .int a1] cm mm lm (some (.int r)) cm mm lm := by
  refine Ct_of (own := RX7) [some (.ref (ad Z 32 0)), some (.int a1), none, none, none] ⟨by decide, rfl⟩ rfl (Nat.le_of_ble_eq_true rfl) rfl (fun X hX hF => ?_)
  have g : G (fun r : Int32 => Fx Z X (some .int) (some (.int r)) cm mm lm) (f_X7_above mm a1) (J Z X 5 cm mm lm 0 [some (.ref (ad Z 32 0)), some (.int a1), none, none, none] []) := by
    unfold f_X7_above
    refine g_iload_n hX dX7_above_0 rfl rfl ?_
    refine g_iconst hX dX7_above_1 ic_0 ?_
    refine g_bipush hX dX7_above_2 bp_99 ?_
    refine g_callS hX (As := [.int a1, .int 0, .int 99]) (fun r => (some (.int r))) (fun _ => cm) (fun _ => mm) (fun _ => lm) (fun r hr => c_X7_within  hr) mi_X7_within ml_7_66 rfl rfl rfl (Nat.le_of_ble_eq_true rfl) dX7_above_4 ?_
    intro x4 hx4
    refine g_if_ne hX dX7_above_7 (fun h7 => ?_) (fun h7 => ?_)
    · refine g_bipush hX dX7_above_10 bp_m2 ?_
      exact g_iret hX (fun h => h) dX7_above_12
    · refine g_bipush hX dX7_above_13 bp_m9 ?_
      refine g_istore_n hX dX7_above_15 rfl (Nat.le_of_ble_eq_true rfl) rfl ?_
      refine g_iconst hX dX7_above_16 ic_0 ?_
      refine g_istore_n hX dX7_above_17 rfl (Nat.le_of_ble_eq_true rfl) rfl ?_
      refine g_loop (Hd := fun s : Int32 × Int32 => J Z X 5 cm mm lm 18 [some (.ref (ad Z 32 0)), some (.int a1), some (.int s.1), some (.int s.2), none] []) (Ex := fun s : Int32 × Int32 => J Z X 5 cm mm lm 69 [some (.ref (ad Z 32 0)), some (.int a1), some (.int s.1), some (.int s.2), none] []) ?_ ?_
      · rintro ⟨s18_2, s18_3⟩
        show G _ (f_X7_above_B18 mm a1 s18_2 s18_3) (J Z X 5 cm mm lm 18 [some (.ref (ad Z 32 0)), some (.int a1), some (.int s18_2), some (.int s18_3), none] [])
        unfold f_X7_above_B18
        refine g_iload_n hX dX7_above_18 rfl rfl ?_
        refine g_aload_n hX dX7_above_19 rfl rfl ?_
        refine g_get hX fi_7_7 p7_0 e7_0 rfl dX7_above_20 ?_
        refine g_sipush hX dX7_above_23 sp_157 ?_
        refine g_iald hX p7_1 e7_1 dX7_above_26 ?_
        intro x26 hx26
        refine g_icmp_ge hX dX7_above_27 (fun h27 => ?_) (fun h27 => ?_)
        · exact g_wk (lv0 := [some (.ref (ad Z 32 0)), some (.int a1), some (.int s18_2), some (.int s18_3), none]) ⟨rfl, rfl, rfl, rfl, trivial⟩ (g_end (fun h => h))
        · refine g_aload_n hX dX7_above_30 rfl rfl ?_
          refine g_iload_n hX dX7_above_31 rfl rfl ?_
          refine g_iconst hX dX7_above_32 ic_0 ?_
          refine g_callV hX (As := [.int s18_3, .int 0]) (fun r => (some (.int r))) (fun _ => cm) (fun _ => mm) (fun _ => lm) (fun r hr => c_X7_of  hr) mi_X7_of ml_7_103 p7_0 e7_0 rfl rfl rfl rfl rfl (Nat.le_of_ble_eq_true rfl) dX7_above_33 ?_
          intro x33 hx33
          refine g_istore hX dX7_above_36 (Nat.le_of_ble_eq_true rfl) rfl ?_
          refine g_iload hX dX7_above_38 rfl ?_
          refine g_iload_n hX dX7_above_40 rfl rfl ?_
          refine g_icmp_le hX dX7_above_41 (fun h41 => ?_) (fun h41 => ?_)
          · refine g_iload_n hX dX7_above_61 rfl rfl ?_
            refine g_istore_n hX dX7_above_62 rfl (Nat.le_of_ble_eq_true rfl) rfl ?_
            refine g_iinc hX dX7_above_63 ic_1 rfl (Nat.le_of_ble_eq_true rfl) rfl ?_
            refine g_goto hX dX7_above_66 ?_
            exact g_wk (lv0 := [some (.ref (ad Z 32 0)), some (.int a1), some (.int s18_2), some (.int (s18_3 + 1)), none]) ⟨rfl, rfl, rfl, rfl, trivial⟩ (g_end (fun h => h))
          · refine g_iload_n hX dX7_above_44 rfl rfl ?_
            refine g_bipush hX dX7_above_45 bp_m9 ?_
            refine g_icmp_eq hX dX7_above_47 (fun h47 => ?_) (fun h47 => ?_)
            · refine g_iload hX dX7_above_56 rfl ?_
              refine g_goto hX dX7_above_58 ?_
              refine g_istore_n hX dX7_above_62 rfl (Nat.le_of_ble_eq_true rfl) rfl ?_
              refine g_iinc hX dX7_above_63 ic_1 rfl (Nat.le_of_ble_eq_true rfl) rfl ?_
              refine g_goto hX dX7_above_66 ?_
              exact g_wk (lv0 := [some (.ref (ad Z 32 0)), some (.int a1), some (.int x33), some (.int (s18_3 + 1)), none]) ⟨rfl, rfl, rfl, rfl, trivial⟩ (g_end (fun h => h))
            · refine g_iload hX dX7_above_50 rfl ?_
              refine g_iload_n hX dX7_above_52 rfl rfl ?_
              refine g_icmp_ge hX dX7_above_53 (fun h53 => ?_) (fun h53 => ?_)
              · refine g_iload_n hX dX7_above_61 rfl rfl ?_
                refine g_istore_n hX dX7_above_62 rfl (Nat.le_of_ble_eq_true rfl) rfl ?_
                refine g_iinc hX dX7_above_63 ic_1 rfl (Nat.le_of_ble_eq_true rfl) rfl ?_
                refine g_goto hX dX7_above_66 ?_
                exact g_wk (lv0 := [some (.ref (ad Z 32 0)), some (.int a1), some (.int s18_2), some (.int (s18_3 + 1)), none]) ⟨rfl, rfl, rfl, rfl, trivial⟩ (g_end (fun h => h))
              · refine g_iload hX dX7_above_56 rfl ?_
                refine g_goto hX dX7_above_58 ?_
                refine g_istore_n hX dX7_above_62 rfl (Nat.le_of_ble_eq_true rfl) rfl ?_
                refine g_iinc hX dX7_above_63 ic_1 rfl (Nat.le_of_ble_eq_true rfl) rfl ?_
                refine g_goto hX dX7_above_66 ?_
                exact g_wk (lv0 := [some (.ref (ad Z 32 0)), some (.int a1), some (.int x33), some (.int (s18_3 + 1)), none]) ⟨rfl, rfl, rfl, rfl, trivial⟩ (g_end (fun h => h))
      · rintro ⟨s18_2, s18_3⟩
        show G _ _ (J Z X 5 cm mm lm 69 [some (.ref (ad Z 32 0)), some (.int a1), some (.int s18_2), some (.int s18_3), none] [])
        refine g_iload_n hX dX7_above_69 rfl rfl ?_
        exact g_iret hX (fun h => h) dX7_above_70
  exact g r h hF

def f_X7_alike_B17 (mm : MM) (a1 : Int32) (s17_2 : Int32) (s17_3 : Int32) : Option ((Int32 × Int32) ⊕ (Int32 × Int32)) :=
  (rd 159 (mm 1) 157).bind fun x25 =>
  if x25 ≤ s17_3 then
    some (.inl (s17_2, s17_3))
  else
    (f_X7_of mm s17_3 0).bind fun x33 =>
    if x33 = a1 then
      some (.inr (s17_2 + 1, s17_3 + 1))
    else
      some (.inr (s17_2 + 0, s17_3 + 1))

def f_X7_alike (mm : MM) (a1 : Int32) : Option (Int32) :=
  (f_X7_within a1 0 99).bind fun x4 =>
  if x4 = 0 then
    some (-2)
  else
    (itr (fun s : Int32 × Int32 => f_X7_alike_B17 mm a1 s.1 s.2) 2000 (0, 0)).bind fun (s17_2, s17_3) =>
    some s17_2

abbrev rm_X7_alike : Room := { frames := 1, cells := 0, slots := 0, locals := 22 }
set_option maxHeartbeats 2000000 in
set_option maxRecDepth 20000 in
theorem c_X7_alike {Z : ZC} {cm : CM} {mm : MM} {lm : LM} {a1 : Int32} {r : Int32}  (h : f_X7_alike mm a1 = some r) : Ct Z yX7_alike cX7_alike 4 (some .int) rm_X7_alike [.ref (ad Z 32 0), .int a1] cm mm lm (some (.int r)) cm mm lm := by
  refine Ct_of (own := RX7) [some (.ref (ad Z 32 0)), some (.int a1), none, none] ⟨by decide, rfl⟩ rfl (Nat.le_of_ble_eq_true rfl) rfl (fun X hX hF => ?_)
  have g : G (fun r : Int32 => Fx Z X (some .int) (some (.int r)) cm mm lm) (f_X7_alike mm a1) (J Z X 4 cm mm lm 0 [some (.ref (ad Z 32 0)), some (.int a1), none, none] []) := by
    unfold f_X7_alike
    refine g_iload_n hX dX7_alike_0 rfl rfl ?_
    refine g_iconst hX dX7_alike_1 ic_0 ?_
    refine g_bipush hX dX7_alike_2 bp_99 ?_
    refine g_callS hX (As := [.int a1, .int 0, .int 99]) (fun r => (some (.int r))) (fun _ => cm) (fun _ => mm) (fun _ => lm) (fun r hr => c_X7_within  hr) mi_X7_within ml_7_66 rfl rfl rfl (Nat.le_of_ble_eq_true rfl) dX7_alike_4 ?_
    intro x4 hx4
    refine g_if_ne hX dX7_alike_7 (fun h7 => ?_) (fun h7 => ?_)
    · refine g_bipush hX dX7_alike_10 bp_m2 ?_
      exact g_iret hX (fun h => h) dX7_alike_12
    · refine g_iconst hX dX7_alike_13 ic_0 ?_
      refine g_istore_n hX dX7_alike_14 rfl (Nat.le_of_ble_eq_true rfl) rfl ?_
      refine g_iconst hX dX7_alike_15 ic_0 ?_
      refine g_istore_n hX dX7_alike_16 rfl (Nat.le_of_ble_eq_true rfl) rfl ?_
      refine g_loop (Hd := fun s : Int32 × Int32 => J Z X 4 cm mm lm 17 [some (.ref (ad Z 32 0)), some (.int a1), some (.int s.1), some (.int s.2)] []) (Ex := fun s : Int32 × Int32 => J Z X 4 cm mm lm 53 [some (.ref (ad Z 32 0)), some (.int a1), some (.int s.1), some (.int s.2)] []) ?_ ?_
      · rintro ⟨s17_2, s17_3⟩
        show G _ (f_X7_alike_B17 mm a1 s17_2 s17_3) (J Z X 4 cm mm lm 17 [some (.ref (ad Z 32 0)), some (.int a1), some (.int s17_2), some (.int s17_3)] [])
        unfold f_X7_alike_B17
        refine g_iload_n hX dX7_alike_17 rfl rfl ?_
        refine g_aload_n hX dX7_alike_18 rfl rfl ?_
        refine g_get hX fi_7_7 p7_0 e7_0 rfl dX7_alike_19 ?_
        refine g_sipush hX dX7_alike_22 sp_157 ?_
        refine g_iald hX p7_1 e7_1 dX7_alike_25 ?_
        intro x25 hx25
        refine g_icmp_ge hX dX7_alike_26 (fun h26 => ?_) (fun h26 => ?_)
        · exact g_wk (lv0 := [some (.ref (ad Z 32 0)), some (.int a1), some (.int s17_2), some (.int s17_3)]) ⟨rfl, rfl, rfl, rfl, trivial⟩ (g_end (fun h => h))
        · refine g_iload_n hX dX7_alike_29 rfl rfl ?_
          refine g_aload_n hX dX7_alike_30 rfl rfl ?_
          refine g_iload_n hX dX7_alike_31 rfl rfl ?_
          refine g_iconst hX dX7_alike_32 ic_0 ?_
          refine g_callV hX (As := [.int s17_3, .int 0]) (fun r => (some (.int r))) (fun _ => cm) (fun _ => mm) (fun _ => lm) (fun r hr => c_X7_of  hr) mi_X7_of ml_7_103 p7_0 e7_0 rfl rfl rfl rfl rfl (Nat.le_of_ble_eq_true rfl) dX7_alike_33 ?_
          intro x33 hx33
          refine g_iload_n hX dX7_alike_36 rfl rfl ?_
          refine g_icmp_ne hX dX7_alike_37 (fun h37 => ?_) (fun h37 => ?_)
          · refine g_iconst hX dX7_alike_40 ic_1 ?_
            refine g_goto hX dX7_alike_41 ?_
            refine g_iadd hX dX7_alike_45 ?_
            refine g_istore_n hX dX7_alike_46 rfl (Nat.le_of_ble_eq_true rfl) rfl ?_
            refine g_iinc hX dX7_alike_47 ic_1 rfl (Nat.le_of_ble_eq_true rfl) rfl ?_
            refine g_goto hX dX7_alike_50 ?_
            exact g_wk (lv0 := [some (.ref (ad Z 32 0)), some (.int a1), some (.int (s17_2 + 1)), some (.int (s17_3 + 1))]) ⟨rfl, rfl, rfl, rfl, trivial⟩ (g_end (fun h => h))
          · refine g_iconst hX dX7_alike_44 ic_0 ?_
            refine g_iadd hX dX7_alike_45 ?_
            refine g_istore_n hX dX7_alike_46 rfl (Nat.le_of_ble_eq_true rfl) rfl ?_
            refine g_iinc hX dX7_alike_47 ic_1 rfl (Nat.le_of_ble_eq_true rfl) rfl ?_
            refine g_goto hX dX7_alike_50 ?_
            exact g_wk (lv0 := [some (.ref (ad Z 32 0)), some (.int a1), some (.int (s17_2 + 0)), some (.int (s17_3 + 1))]) ⟨rfl, rfl, rfl, rfl, trivial⟩ (g_end (fun h => h))
      · rintro ⟨s17_2, s17_3⟩
        show G _ _ (J Z X 4 cm mm lm 53 [some (.ref (ad Z 32 0)), some (.int a1), some (.int s17_2), some (.int s17_3)] [])
        refine g_iload_n hX dX7_alike_53 rfl rfl ?_
        exact g_iret hX (fun h => h) dX7_alike_54
  exact g r h hF

def f_X7_seats (mm : MM) (a1 a2 : Int32) : Option (Int32 × MM) :=
  (f_X7_isKind a1).bind fun x1 =>
  if x1 = 0 then
    some ((-1), mm)
  else
    (f_X7_within a2 0 9).bind fun x13 =>
    if x13 = 0 then
      some ((-2), mm)
    else
      (f_X7_changes mm (128 + a1) a2).bind fun r26 =>
      some (r26.1, r26.2)

abbrev rm_X7_seats : Room := { frames := 2, cells := 0, slots := 0, locals := 44 }
set_option maxHeartbeats 2000000 in
set_option maxRecDepth 20000 in
theorem c_X7_seats {Z : ZC} {cm : CM} {mm : MM} {lm : LM} {a1 a2 : Int32} {r : Int32 × MM}  (h : f_X7_seats mm a1 a2 = some r) : Ct Z yX7_seats cX7_seats 3 (some .int) rm_X7_seats [.ref (ad Z 32 0), .int a1, .int a2] cm mm lm (some (.int r.1)) cm r.2 lm := by
  refine Ct_of (own := RX7) [some (.ref (ad Z 32 0)), some (.int a1), some (.int a2)] ⟨by decide, rfl⟩ rfl (Nat.le_of_ble_eq_true rfl) rfl (fun X hX hF => ?_)
  have g : G (fun r : Int32 × MM => Fx Z X (some .int) (some (.int r.1)) cm r.2 lm) (f_X7_seats mm a1 a2) (J Z X 3 cm mm lm 0 [some (.ref (ad Z 32 0)), some (.int a1), some (.int a2)] []) := by
    unfold f_X7_seats
    refine g_iload_n hX dX7_seats_0 rfl rfl ?_
    refine g_callS hX (As := [.int a1]) (fun r => (some (.int r))) (fun _ => cm) (fun _ => mm) (fun _ => lm) (fun r hr => c_X7_isKind  hr) mi_X7_isKind ml_7_80 rfl rfl rfl (Nat.le_of_ble_eq_true rfl) dX7_seats_1 ?_
    intro x1 hx1
    refine g_if_ne hX dX7_seats_4 (fun h4 => ?_) (fun h4 => ?_)
    · refine g_iconst hX dX7_seats_7 ic_m1 ?_
      exact g_iret hX (fun h => h) dX7_seats_8
    · refine g_iload_n hX dX7_seats_9 rfl rfl ?_
      refine g_iconst hX dX7_seats_10 ic_0 ?_
      refine g_bipush hX dX7_seats_11 bp_9 ?_
      refine g_callS hX (As := [.int a2, .int 0, .int 9]) (fun r => (some (.int r))) (fun _ => cm) (fun _ => mm) (fun _ => lm) (fun r hr => c_X7_within  hr) mi_X7_within ml_7_66 rfl rfl rfl (Nat.le_of_ble_eq_true rfl) dX7_seats_13 ?_
      intro x13 hx13
      refine g_if_eq hX dX7_seats_16 (fun h16 => ?_) (fun h16 => ?_)
      · refine g_bipush hX dX7_seats_32 bp_m2 ?_
        exact g_iret hX (fun h => h) dX7_seats_34
      · refine g_aload_n hX dX7_seats_19 rfl rfl ?_
        refine g_sipush hX dX7_seats_20 sp_128 ?_
        refine g_iload_n hX dX7_seats_23 rfl rfl ?_
        refine g_iadd hX dX7_seats_24 ?_
        refine g_iload_n hX dX7_seats_25 rfl rfl ?_
        refine g_callV hX (As := [.int (128 + a1), .int a2]) (fun r => (some (.int r.1))) (fun _ => cm) (fun r => r.2) (fun _ => lm) (fun r hr => c_X7_changes  hr) mi_X7_changes ml_7_95 p7_0 e7_0 rfl rfl rfl rfl rfl (Nat.le_of_ble_eq_true rfl) dX7_seats_26 ?_
        intro r26 hr26
        refine g_goto hX dX7_seats_29 ?_
        exact g_iret hX (fun h => h) dX7_seats_34
  exact g r h hF

def f_X7_reserve (mm : MM) (a1 a2 a3 : Int32) : Option (Int32 × MM) :=
  (f_X7_isKind a1).bind fun x1 =>
  if x1 = 0 then
    some ((-1), mm)
  else
    (f_X7_within a2 0 3).bind fun x10 =>
    if x10 = 0 then
      some ((-1), mm)
    else
      (f_X7_within a3 0 5).bind fun x21 =>
      if x21 = 0 then
        some ((-2), mm)
      else
        (f_X7_changes mm ((132 + (4 * a1)) + a2) a3).bind fun r38 =>
        some (r38.1, r38.2)

abbrev rm_X7_reserve : Room := { frames := 2, cells := 0, slots := 0, locals := 44 }
set_option maxHeartbeats 2000000 in
set_option maxRecDepth 20000 in
theorem c_X7_reserve {Z : ZC} {cm : CM} {mm : MM} {lm : LM} {a1 a2 a3 : Int32} {r : Int32 × MM}  (h : f_X7_reserve mm a1 a2 a3 = some r) : Ct Z yX7_reserve cX7_reserve 4 (some .int) rm_X7_reserve [.ref (ad Z 32 0), .int a1, .int a2, .int a3] cm mm lm (some (.int r.1)) cm r.2 lm := by
  refine Ct_of (own := RX7) [some (.ref (ad Z 32 0)), some (.int a1), some (.int a2), some (.int a3)] ⟨by decide, rfl⟩ rfl (Nat.le_of_ble_eq_true rfl) rfl (fun X hX hF => ?_)
  have g : G (fun r : Int32 × MM => Fx Z X (some .int) (some (.int r.1)) cm r.2 lm) (f_X7_reserve mm a1 a2 a3) (J Z X 4 cm mm lm 0 [some (.ref (ad Z 32 0)), some (.int a1), some (.int a2), some (.int a3)] []) := by
    unfold f_X7_reserve
    refine g_iload_n hX dX7_reserve_0 rfl rfl ?_
    refine g_callS hX (As := [.int a1]) (fun r => (some (.int r))) (fun _ => cm) (fun _ => mm) (fun _ => lm) (fun r hr => c_X7_isKind  hr) mi_X7_isKind ml_7_80 rfl rfl rfl (Nat.le_of_ble_eq_true rfl) dX7_reserve_1 ?_
    intro x1 hx1
    refine g_if_eq hX dX7_reserve_4 (fun h4 => ?_) (fun h4 => ?_)
    · refine g_iconst hX dX7_reserve_16 ic_m1 ?_
      exact g_iret hX (fun h => h) dX7_reserve_17
    · refine g_iload_n hX dX7_reserve_7 rfl rfl ?_
      refine g_iconst hX dX7_reserve_8 ic_0 ?_
      refine g_iconst hX dX7_reserve_9 ic_3 ?_
      refine g_callS hX (As := [.int a2, .int 0, .int 3]) (fun r => (some (.int r))) (fun _ => cm) (fun _ => mm) (fun _ => lm) (fun r hr => c_X7_within  hr) mi_X7_within ml_7_66 rfl rfl rfl (Nat.le_of_ble_eq_true rfl) dX7_reserve_10 ?_
      intro x10 hx10
      refine g_if_ne hX dX7_reserve_13 (fun h13 => ?_) (fun h13 => ?_)
      · refine g_iconst hX dX7_reserve_16 ic_m1 ?_
        exact g_iret hX (fun h => h) dX7_reserve_17
      · refine g_iload_n hX dX7_reserve_18 rfl rfl ?_
        refine g_iconst hX dX7_reserve_19 ic_0 ?_
        refine g_iconst hX dX7_reserve_20 ic_5 ?_
        refine g_callS hX (As := [.int a3, .int 0, .int 5]) (fun r => (some (.int r))) (fun _ => cm) (fun _ => mm) (fun _ => lm) (fun r hr => c_X7_within  hr) mi_X7_within ml_7_66 rfl rfl rfl (Nat.le_of_ble_eq_true rfl) dX7_reserve_21 ?_
        intro x21 hx21
        refine g_if_eq hX dX7_reserve_24 (fun h24 => ?_) (fun h24 => ?_)
        · refine g_bipush hX dX7_reserve_44 bp_m2 ?_
          exact g_iret hX (fun h => h) dX7_reserve_46
        · refine g_aload_n hX dX7_reserve_27 rfl rfl ?_
          refine g_sipush hX dX7_reserve_28 sp_132 ?_
          refine g_iconst hX dX7_reserve_31 ic_4 ?_
          refine g_iload_n hX dX7_reserve_32 rfl rfl ?_
          refine g_imul hX dX7_reserve_33 ?_
          refine g_iadd hX dX7_reserve_34 ?_
          refine g_iload_n hX dX7_reserve_35 rfl rfl ?_
          refine g_iadd hX dX7_reserve_36 ?_
          refine g_iload_n hX dX7_reserve_37 rfl rfl ?_
          refine g_callV hX (As := [.int ((132 + (4 * a1)) + a2), .int a3]) (fun r => (some (.int r.1))) (fun _ => cm) (fun r => r.2) (fun _ => lm) (fun r hr => c_X7_changes  hr) mi_X7_changes ml_7_95 p7_0 e7_0 rfl rfl rfl rfl rfl (Nat.le_of_ble_eq_true rfl) dX7_reserve_38 ?_
          intro r38 hr38
          refine g_goto hX dX7_reserve_41 ?_
          exact g_iret hX (fun h => h) dX7_reserve_46
  exact g r h hF

def f_X7_heir (mm : MM) (a1 a2 : Int32) : Option (Int32 × MM) :=
  (f_X7_within a1 1 3).bind fun x3 =>
  if x3 = 0 then
    some ((-1), mm)
  else
    (f_X7_isKind a2).bind fun x12 =>
    if x12 = 0 then
      if a2 = (-9) then
        (f_X7_changes mm (148 + a1) a2).bind fun r31 =>
        some (r31.1, r31.2)
      else
        some ((-2), mm)
    else
      (f_X7_changes mm (148 + a1) a2).bind fun r31 =>
      some (r31.1, r31.2)

abbrev rm_X7_heir : Room := { frames := 2, cells := 0, slots := 0, locals := 44 }
set_option maxHeartbeats 2000000 in
set_option maxRecDepth 20000 in
theorem c_X7_heir {Z : ZC} {cm : CM} {mm : MM} {lm : LM} {a1 a2 : Int32} {r : Int32 × MM}  (h : f_X7_heir mm a1 a2 = some r) : Ct Z yX7_heir cX7_heir 3 (some .int) rm_X7_heir [.ref (ad Z 32 0), .int a1, .int a2] cm mm lm (some (.int r.1)) cm r.2 lm := by
  refine Ct_of (own := RX7) [some (.ref (ad Z 32 0)), some (.int a1), some (.int a2)] ⟨by decide, rfl⟩ rfl (Nat.le_of_ble_eq_true rfl) rfl (fun X hX hF => ?_)
  have g : G (fun r : Int32 × MM => Fx Z X (some .int) (some (.int r.1)) cm r.2 lm) (f_X7_heir mm a1 a2) (J Z X 3 cm mm lm 0 [some (.ref (ad Z 32 0)), some (.int a1), some (.int a2)] []) := by
    unfold f_X7_heir
    refine g_iload_n hX dX7_heir_0 rfl rfl ?_
    refine g_iconst hX dX7_heir_1 ic_1 ?_
    refine g_iconst hX dX7_heir_2 ic_3 ?_
    refine g_callS hX (As := [.int a1, .int 1, .int 3]) (fun r => (some (.int r))) (fun _ => cm) (fun _ => mm) (fun _ => lm) (fun r hr => c_X7_within  hr) mi_X7_within ml_7_66 rfl rfl rfl (Nat.le_of_ble_eq_true rfl) dX7_heir_3 ?_
    intro x3 hx3
    refine g_if_ne hX dX7_heir_6 (fun h6 => ?_) (fun h6 => ?_)
    · refine g_iconst hX dX7_heir_9 ic_m1 ?_
      exact g_iret hX (fun h => h) dX7_heir_10
    · refine g_iload_n hX dX7_heir_11 rfl rfl ?_
      refine g_callS hX (As := [.int a2]) (fun r => (some (.int r))) (fun _ => cm) (fun _ => mm) (fun _ => lm) (fun r hr => c_X7_isKind  hr) mi_X7_isKind ml_7_80 rfl rfl rfl (Nat.le_of_ble_eq_true rfl) dX7_heir_12 ?_
      intro x12 hx12
      refine g_if_ne hX dX7_heir_15 (fun h15 => ?_) (fun h15 => ?_)
      · refine g_iload_n hX dX7_heir_18 rfl rfl ?_
        refine g_bipush hX dX7_heir_19 bp_m9 ?_
        refine g_icmp_ne hX dX7_heir_21 (fun h21 => ?_) (fun h21 => ?_)
        · refine g_aload_n hX dX7_heir_24 rfl rfl ?_
          refine g_sipush hX dX7_heir_25 sp_148 ?_
          refine g_iload_n hX dX7_heir_28 rfl rfl ?_
          refine g_iadd hX dX7_heir_29 ?_
          refine g_iload_n hX dX7_heir_30 rfl rfl ?_
          refine g_callV hX (As := [.int (148 + a1), .int a2]) (fun r => (some (.int r.1))) (fun _ => cm) (fun r => r.2) (fun _ => lm) (fun r hr => c_X7_changes  hr) mi_X7_changes ml_7_95 p7_0 e7_0 rfl rfl rfl rfl rfl (Nat.le_of_ble_eq_true rfl) dX7_heir_31 ?_
          intro r31 hr31
          refine g_goto hX dX7_heir_34 ?_
          exact g_iret hX (fun h => h) dX7_heir_39
        · refine g_bipush hX dX7_heir_37 bp_m2 ?_
          exact g_iret hX (fun h => h) dX7_heir_39
      · refine g_aload_n hX dX7_heir_24 rfl rfl ?_
        refine g_sipush hX dX7_heir_25 sp_148 ?_
        refine g_iload_n hX dX7_heir_28 rfl rfl ?_
        refine g_iadd hX dX7_heir_29 ?_
        refine g_iload_n hX dX7_heir_30 rfl rfl ?_
        refine g_callV hX (As := [.int (148 + a1), .int a2]) (fun r => (some (.int r.1))) (fun _ => cm) (fun r => r.2) (fun _ => lm) (fun r hr => c_X7_changes  hr) mi_X7_changes ml_7_95 p7_0 e7_0 rfl rfl rfl rfl rfl (Nat.le_of_ble_eq_true rfl) dX7_heir_31 ?_
        intro r31 hr31
        refine g_goto hX dX7_heir_34 ?_
        exact g_iret hX (fun h => h) dX7_heir_39
  exact g r h hF

def f_X7_manner (mm : MM) (a1 : Int32) : Option (Int32 × MM) :=
  (f_X7_within a1 0 2).bind fun x3 =>
  if x3 = 0 then
    some ((-2), mm)
  else
    (f_X7_changes mm 156 a1).bind fun r14 =>
    some (r14.1, r14.2)

abbrev rm_X7_manner : Room := { frames := 2, cells := 0, slots := 0, locals := 44 }
set_option maxHeartbeats 2000000 in
set_option maxRecDepth 20000 in
theorem c_X7_manner {Z : ZC} {cm : CM} {mm : MM} {lm : LM} {a1 : Int32} {r : Int32 × MM}  (h : f_X7_manner mm a1 = some r) : Ct Z yX7_manner cX7_manner 2 (some .int) rm_X7_manner [.ref (ad Z 32 0), .int a1] cm mm lm (some (.int r.1)) cm r.2 lm := by
  refine Ct_of (own := RX7) [some (.ref (ad Z 32 0)), some (.int a1)] ⟨by decide, rfl⟩ rfl (Nat.le_of_ble_eq_true rfl) rfl (fun X hX hF => ?_)
  have g : G (fun r : Int32 × MM => Fx Z X (some .int) (some (.int r.1)) cm r.2 lm) (f_X7_manner mm a1) (J Z X 2 cm mm lm 0 [some (.ref (ad Z 32 0)), some (.int a1)] []) := by
    unfold f_X7_manner
    refine g_iload_n hX dX7_manner_0 rfl rfl ?_
    refine g_iconst hX dX7_manner_1 ic_0 ?_
    refine g_iconst hX dX7_manner_2 ic_2 ?_
    refine g_callS hX (As := [.int a1, .int 0, .int 2]) (fun r => (some (.int r))) (fun _ => cm) (fun _ => mm) (fun _ => lm) (fun r hr => c_X7_within  hr) mi_X7_within ml_7_66 rfl rfl rfl (Nat.le_of_ble_eq_true rfl) dX7_manner_3 ?_
    intro x3 hx3
    refine g_if_eq hX dX7_manner_6 (fun h6 => ?_) (fun h6 => ?_)
    · refine g_bipush hX dX7_manner_20 bp_m2 ?_
      exact g_iret hX (fun h => h) dX7_manner_22
    · refine g_aload_n hX dX7_manner_9 rfl rfl ?_
      refine g_sipush hX dX7_manner_10 sp_156 ?_
      refine g_iload_n hX dX7_manner_13 rfl rfl ?_
      refine g_callV hX (As := [.int 156, .int a1]) (fun r => (some (.int r.1))) (fun _ => cm) (fun r => r.2) (fun _ => lm) (fun r hr => c_X7_changes  hr) mi_X7_changes ml_7_95 p7_0 e7_0 rfl rfl rfl rfl rfl (Nat.le_of_ble_eq_true rfl) dX7_manner_14 ?_
      intro r14 hr14
      refine g_goto hX dX7_manner_17 ?_
      exact g_iret hX (fun h => h) dX7_manner_22
  exact g r h hF

def f_X7_order (mm : MM) (a1 a2 a3 a4 : Int32) : Option (Int32 × MM) :=
  (f_X7_isKind a1).bind fun x1 =>
  if x1 = 0 then
    some ((-2), mm)
  else
    (f_X7_isKind a2).bind fun x8 =>
    if x8 = 0 then
      some ((-2), mm)
    else
      (f_X7_isKind a3).bind fun x15 =>
      if x15 = 0 then
        some ((-2), mm)
      else
        (f_X7_isKind a4).bind fun x23 =>
        if x23 = 0 then
          some ((-2), mm)
        else
          if ((((1 <<< (a1 &&& 31)) ||| (1 <<< (a2 &&& 31))) ||| (1 <<< (a3 &&& 31))) ||| (1 <<< (a4 &&& 31))) = 15 then
            (f_X7_keep mm).bind fun r57 =>
            (wr 159 (r57 1) 152 a1).bind fun g68 =>
            (wr 159 ((u2 r57 1 g68) 1) 153 a2).bind fun g77 =>
            (wr 159 ((u2 (u2 r57 1 g68) 1 g77) 1) 154 a3).bind fun g86 =>
            (wr 159 ((u2 (u2 (u2 r57 1 g68) 1 g77) 1 g86) 1) 155 a4).bind fun g96 =>
            some (1, u2 (u2 (u2 (u2 r57 1 g68) 1 g77) 1 g86) 1 g96)
          else
            some ((-2), mm)

abbrev rm_X7_order : Room := { frames := 2, cells := 0, slots := 0, locals := 42 }
set_option maxHeartbeats 2000000 in
set_option maxRecDepth 20000 in
theorem c_X7_order {Z : ZC} {cm : CM} {mm : MM} {lm : LM} {a1 a2 a3 a4 : Int32} {r : Int32 × MM}  (h : f_X7_order mm a1 a2 a3 a4 = some r) : Ct Z yX7_order cX7_order 5 (some .int) rm_X7_order [.ref (ad Z 32 0), .int a1, .int a2, .int a3, .int a4] cm mm lm (some (.int r.1)) cm r.2 lm := by
  refine Ct_of (own := RX7) [some (.ref (ad Z 32 0)), some (.int a1), some (.int a2), some (.int a3), some (.int a4)] ⟨by decide, rfl⟩ rfl (Nat.le_of_ble_eq_true rfl) rfl (fun X hX hF => ?_)
  have g : G (fun r : Int32 × MM => Fx Z X (some .int) (some (.int r.1)) cm r.2 lm) (f_X7_order mm a1 a2 a3 a4) (J Z X 5 cm mm lm 0 [some (.ref (ad Z 32 0)), some (.int a1), some (.int a2), some (.int a3), some (.int a4)] []) := by
    unfold f_X7_order
    refine g_iload_n hX dX7_order_0 rfl rfl ?_
    refine g_callS hX (As := [.int a1]) (fun r => (some (.int r))) (fun _ => cm) (fun _ => mm) (fun _ => lm) (fun r hr => c_X7_isKind  hr) mi_X7_isKind ml_7_80 rfl rfl rfl (Nat.le_of_ble_eq_true rfl) dX7_order_1 ?_
    intro x1 hx1
    refine g_if_eq hX dX7_order_4 (fun h4 => ?_) (fun h4 => ?_)
    · refine g_bipush hX dX7_order_29 bp_m2 ?_
      exact g_iret hX (fun h => h) dX7_order_31
    · refine g_iload_n hX dX7_order_7 rfl rfl ?_
      refine g_callS hX (As := [.int a2]) (fun r => (some (.int r))) (fun _ => cm) (fun _ => mm) (fun _ => lm) (fun r hr => c_X7_isKind  hr) mi_X7_isKind ml_7_80 rfl rfl rfl (Nat.le_of_ble_eq_true rfl) dX7_order_8 ?_
      intro x8 hx8
      refine g_if_eq hX dX7_order_11 (fun h11 => ?_) (fun h11 => ?_)
      · refine g_bipush hX dX7_order_29 bp_m2 ?_
        exact g_iret hX (fun h => h) dX7_order_31
      · refine g_iload_n hX dX7_order_14 rfl rfl ?_
        refine g_callS hX (As := [.int a3]) (fun r => (some (.int r))) (fun _ => cm) (fun _ => mm) (fun _ => lm) (fun r hr => c_X7_isKind  hr) mi_X7_isKind ml_7_80 rfl rfl rfl (Nat.le_of_ble_eq_true rfl) dX7_order_15 ?_
        intro x15 hx15
        refine g_if_eq hX dX7_order_18 (fun h18 => ?_) (fun h18 => ?_)
        · refine g_bipush hX dX7_order_29 bp_m2 ?_
          exact g_iret hX (fun h => h) dX7_order_31
        · refine g_iload hX dX7_order_21 rfl ?_
          refine g_callS hX (As := [.int a4]) (fun r => (some (.int r))) (fun _ => cm) (fun _ => mm) (fun _ => lm) (fun r hr => c_X7_isKind  hr) mi_X7_isKind ml_7_80 rfl rfl rfl (Nat.le_of_ble_eq_true rfl) dX7_order_23 ?_
          intro x23 hx23
          refine g_if_ne hX dX7_order_26 (fun h26 => ?_) (fun h26 => ?_)
          · refine g_bipush hX dX7_order_29 bp_m2 ?_
            exact g_iret hX (fun h => h) dX7_order_31
          · refine g_iconst hX dX7_order_32 ic_1 ?_
            refine g_iload_n hX dX7_order_33 rfl rfl ?_
            refine g_ishl hX dX7_order_34 ?_
            refine g_iconst hX dX7_order_35 ic_1 ?_
            refine g_iload_n hX dX7_order_36 rfl rfl ?_
            refine g_ishl hX dX7_order_37 ?_
            refine g_ior hX dX7_order_38 ?_
            refine g_iconst hX dX7_order_39 ic_1 ?_
            refine g_iload_n hX dX7_order_40 rfl rfl ?_
            refine g_ishl hX dX7_order_41 ?_
            refine g_ior hX dX7_order_42 ?_
            refine g_iconst hX dX7_order_43 ic_1 ?_
            refine g_iload hX dX7_order_44 rfl ?_
            refine g_ishl hX dX7_order_46 ?_
            refine g_ior hX dX7_order_47 ?_
            refine g_bipush hX dX7_order_48 bp_15 ?_
            refine g_icmp_eq hX dX7_order_50 (fun h50 => ?_) (fun h50 => ?_)
            · refine g_aload_n hX dX7_order_56 rfl rfl ?_
              refine g_callV hX (As := []) (fun _ => none) (fun _ => cm) (fun r => r) (fun _ => lm) (fun r hr => c_X7_keep  hr) mi_X7_keep ml_7_77 p7_0 e7_0 rfl rfl rfl rfl rfl (Nat.le_of_ble_eq_true rfl) dX7_order_57 ?_
              intro r57 hr57
              refine g_aload_n hX dX7_order_60 rfl rfl ?_
              refine g_get hX fi_7_7 p7_0 e7_0 rfl dX7_order_61 ?_
              refine g_sipush hX dX7_order_64 sp_152 ?_
              refine g_iload_n hX dX7_order_67 rfl rfl ?_
              refine g_iastM hX p7_1 (s7_1 Z _) dX7_order_68 ?_
              intro g68 hg68
              refine g_aload_n hX dX7_order_69 rfl rfl ?_
              refine g_get hX fi_7_7 p7_0 e7_0 rfl dX7_order_70 ?_
              refine g_sipush hX dX7_order_73 sp_153 ?_
              refine g_iload_n hX dX7_order_76 rfl rfl ?_
              refine g_iastM hX p7_1 (s7_1 Z _) dX7_order_77 ?_
              intro g77 hg77
              refine g_aload_n hX dX7_order_78 rfl rfl ?_
              refine g_get hX fi_7_7 p7_0 e7_0 rfl dX7_order_79 ?_
              refine g_sipush hX dX7_order_82 sp_154 ?_
              refine g_iload_n hX dX7_order_85 rfl rfl ?_
              refine g_iastM hX p7_1 (s7_1 Z _) dX7_order_86 ?_
              intro g86 hg86
              refine g_aload_n hX dX7_order_87 rfl rfl ?_
              refine g_get hX fi_7_7 p7_0 e7_0 rfl dX7_order_88 ?_
              refine g_sipush hX dX7_order_91 sp_155 ?_
              refine g_iload hX dX7_order_94 rfl ?_
              refine g_iastM hX p7_1 (s7_1 Z _) dX7_order_96 ?_
              intro g96 hg96
              refine g_iconst hX dX7_order_97 ic_1 ?_
              exact g_iret hX (fun h => h) dX7_order_98
            · refine g_bipush hX dX7_order_53 bp_m2 ?_
              exact g_iret hX (fun h => h) dX7_order_55
  exact g r h hF

def f_X7_takesPart (mm : MM) (a1 : Int32) : Option (Int32) :=
  (f_X7_of mm a1 4).bind fun x3 =>
  if 2 < x3 then
    some 0
  else
    some 1

abbrev rm_X7_takesPart : Room := { frames := 1, cells := 0, slots := 0, locals := 22 }
set_option maxHeartbeats 2000000 in
set_option maxRecDepth 20000 in
theorem c_X7_takesPart {Z : ZC} {cm : CM} {mm : MM} {lm : LM} {a1 : Int32} {r : Int32}  (h : f_X7_takesPart mm a1 = some r) : Ct Z yX7_takesPart cX7_takesPart 2 (some .boolean) rm_X7_takesPart [.ref (ad Z 32 0), .int a1] cm mm lm (some (.int r)) cm mm lm := by
  refine Ct_of (own := RX7) [some (.ref (ad Z 32 0)), some (.int a1)] ⟨by decide, rfl⟩ rfl (Nat.le_of_ble_eq_true rfl) rfl (fun X hX hF => ?_)
  have g : G (fun r : Int32 => Fx Z X (some .boolean) (some (.int r)) cm mm lm) (f_X7_takesPart mm a1) (J Z X 2 cm mm lm 0 [some (.ref (ad Z 32 0)), some (.int a1)] []) := by
    unfold f_X7_takesPart
    refine g_aload_n hX dX7_takesPart_0 rfl rfl ?_
    refine g_iload_n hX dX7_takesPart_1 rfl rfl ?_
    refine g_iconst hX dX7_takesPart_2 ic_4 ?_
    refine g_callV hX (As := [.int a1, .int 4]) (fun r => (some (.int r))) (fun _ => cm) (fun _ => mm) (fun _ => lm) (fun r hr => c_X7_of  hr) mi_X7_of ml_7_103 p7_0 e7_0 rfl rfl rfl rfl rfl (Nat.le_of_ble_eq_true rfl) dX7_takesPart_3 ?_
    intro x3 hx3
    refine g_iconst hX dX7_takesPart_6 ic_2 ?_
    refine g_icmp_gt hX dX7_takesPart_7 (fun h7 => ?_) (fun h7 => ?_)
    · refine g_iconst hX dX7_takesPart_14 ic_0 ?_
      exact g_zret hX (by decide) (fun h => h) dX7_takesPart_15
    · refine g_iconst hX dX7_takesPart_10 ic_1 ?_
      refine g_goto hX dX7_takesPart_11 ?_
      exact g_zret hX (by decide) (fun h => h) dX7_takesPart_15
  exact g r h hF

def f_X7_isCandidate (mm : MM) (a1 a2 : Int32) : Option (Int32) :=
  if a2 = 0 then
    some 1
  else
    (f_X7_of mm a1 2).bind fun x7 =>
    if x7 = a2 then
      some 1
    else
      some 0

abbrev rm_X7_isCandidate : Room := { frames := 1, cells := 0, slots := 0, locals := 22 }
set_option maxHeartbeats 2000000 in
set_option maxRecDepth 20000 in
theorem c_X7_isCandidate {Z : ZC} {cm : CM} {mm : MM} {lm : LM} {a1 a2 : Int32} {r : Int32}  (h : f_X7_isCandidate mm a1 a2 = some r) : Ct Z yX7_isCandidate cX7_isCandidate 3 (some .boolean) rm_X7_isCandidate [.ref (ad Z 32 0), .int a1, .int a2] cm mm lm (some (.int r)) cm mm lm := by
  refine Ct_of (own := RX7) [some (.ref (ad Z 32 0)), some (.int a1), some (.int a2)] ⟨by decide, rfl⟩ rfl (Nat.le_of_ble_eq_true rfl) rfl (fun X hX hF => ?_)
  have g : G (fun r : Int32 => Fx Z X (some .boolean) (some (.int r)) cm mm lm) (f_X7_isCandidate mm a1 a2) (J Z X 3 cm mm lm 0 [some (.ref (ad Z 32 0)), some (.int a1), some (.int a2)] []) := by
    unfold f_X7_isCandidate
    refine g_iload_n hX dX7_isCandidate_0 rfl rfl ?_
    refine g_if_eq hX dX7_isCandidate_1 (fun h1 => ?_) (fun h1 => ?_)
    · refine g_iconst hX dX7_isCandidate_14 ic_1 ?_
      refine g_goto hX dX7_isCandidate_15 ?_
      exact g_zret hX (by decide) (fun h => h) dX7_isCandidate_19
    · refine g_aload_n hX dX7_isCandidate_4 rfl rfl ?_
      refine g_iload_n hX dX7_isCandidate_5 rfl rfl ?_
      refine g_iconst hX dX7_isCandidate_6 ic_2 ?_
      refine g_callV hX (As := [.int a1, .int 2]) (fun r => (some (.int r))) (fun _ => cm) (fun _ => mm) (fun _ => lm) (fun r hr => c_X7_of  hr) mi_X7_of ml_7_103 p7_0 e7_0 rfl rfl rfl rfl rfl (Nat.le_of_ble_eq_true rfl) dX7_isCandidate_7 ?_
      intro x7 hx7
      refine g_iload_n hX dX7_isCandidate_10 rfl rfl ?_
      refine g_icmp_ne hX dX7_isCandidate_11 (fun h11 => ?_) (fun h11 => ?_)
      · refine g_iconst hX dX7_isCandidate_14 ic_1 ?_
        refine g_goto hX dX7_isCandidate_15 ?_
        exact g_zret hX (by decide) (fun h => h) dX7_isCandidate_19
      · refine g_iconst hX dX7_isCandidate_18 ic_0 ?_
        exact g_zret hX (by decide) (fun h => h) dX7_isCandidate_19
  exact g r h hF

def f_X7_noted_B5 (mm : MM) (a1 : Int32) (a2 : Int32) (s5_3 : Int32) (s5_4 : Int32) : Option ((Int32 × Int32) ⊕ (Int32 × Int32)) :=
  (rd 159 (mm 1) 157).bind fun x14 =>
  if x14 ≤ s5_4 then
    some (.inl (s5_3, s5_4))
  else
    (f_X7_of mm s5_4 4).bind fun x22 =>
    ((if x22 = 3 then
        (f_X7_of mm s5_4 5).bind fun x33 =>
        if x33 = a1 then
          some 1
        else
          some 0
      else
        some 0) : Option (Int32)).bind fun k45_0 =>
    if k45_0 = 0 then
      some (.inr (s5_3 + 0, s5_4 + 1))
    else
      if a2 = (-9) then
        some (.inr (s5_3 + 1, s5_4 + 1))
      else
        (f_X7_of mm s5_4 6).bind fun x64 =>
        if x64 = a2 then
          some (.inr (s5_3 + 1, s5_4 + 1))
        else
          some (.inr (s5_3 + 0, s5_4 + 1))

def f_X7_noted (mm : MM) (a1 a2 : Int32) : Option (Int32) :=
  (itr (fun s : Int32 × Int32 => f_X7_noted_B5 mm a1 a2 s.1 s.2) 2000 (0, 0)).bind fun (s5_3, s5_4) =>
  some s5_3

abbrev rm_X7_noted : Room := { frames := 1, cells := 0, slots := 0, locals := 22 }
set_option maxHeartbeats 2000000 in
set_option maxRecDepth 20000 in
theorem c_X7_noted {Z : ZC} {cm : CM} {mm : MM} {lm : LM} {a1 a2 : Int32} {r : Int32}  (h : f_X7_noted mm a1 a2 = some r) : Ct Z yX7_noted cX7_noted 6 (some .int) rm_X7_noted [.ref (ad Z 32 0), .int a1, .int a2] cm mm lm (some (.int r)) cm mm lm := by
  refine Ct_of (own := RX7) [some (.ref (ad Z 32 0)), some (.int a1), some (.int a2), none, none, none] ⟨by decide, rfl⟩ rfl (Nat.le_of_ble_eq_true rfl) rfl (fun X hX hF => ?_)
  have g : G (fun r : Int32 => Fx Z X (some .int) (some (.int r)) cm mm lm) (f_X7_noted mm a1 a2) (J Z X 6 cm mm lm 0 [some (.ref (ad Z 32 0)), some (.int a1), some (.int a2), none, none, none] []) := by
    unfold f_X7_noted
    refine g_iconst hX dX7_noted_0 ic_0 ?_
    refine g_istore_n hX dX7_noted_1 rfl (Nat.le_of_ble_eq_true rfl) rfl ?_
    refine g_iconst hX dX7_noted_2 ic_0 ?_
    refine g_istore hX dX7_noted_3 (Nat.le_of_ble_eq_true rfl) rfl ?_
    refine g_loop (Hd := fun s : Int32 × Int32 => J Z X 6 cm mm lm 5 [some (.ref (ad Z 32 0)), some (.int a1), some (.int a2), some (.int s.1), some (.int s.2), none] []) (Ex := fun s : Int32 × Int32 => J Z X 6 cm mm lm 84 [some (.ref (ad Z 32 0)), some (.int a1), some (.int a2), some (.int s.1), some (.int s.2), none] []) ?_ ?_
    · rintro ⟨s5_3, s5_4⟩
      show G _ (f_X7_noted_B5 mm a1 a2 s5_3 s5_4) (J Z X 6 cm mm lm 5 [some (.ref (ad Z 32 0)), some (.int a1), some (.int a2), some (.int s5_3), some (.int s5_4), none] [])
      unfold f_X7_noted_B5
      refine g_iload hX dX7_noted_5 rfl ?_
      refine g_aload_n hX dX7_noted_7 rfl rfl ?_
      refine g_get hX fi_7_7 p7_0 e7_0 rfl dX7_noted_8 ?_
      refine g_sipush hX dX7_noted_11 sp_157 ?_
      refine g_iald hX p7_1 e7_1 dX7_noted_14 ?_
      intro x14 hx14
      refine g_icmp_ge hX dX7_noted_15 (fun h15 => ?_) (fun h15 => ?_)
      · exact g_wk (lv0 := [some (.ref (ad Z 32 0)), some (.int a1), some (.int a2), some (.int s5_3), some (.int s5_4), none]) ⟨rfl, rfl, rfl, rfl, rfl, trivial⟩ (g_end (fun h => h))
      · refine g_aload_n hX dX7_noted_18 rfl rfl ?_
        refine g_iload hX dX7_noted_19 rfl ?_
        refine g_iconst hX dX7_noted_21 ic_4 ?_
        refine g_callV hX (As := [.int s5_4, .int 4]) (fun r => (some (.int r))) (fun _ => cm) (fun _ => mm) (fun _ => lm) (fun r hr => c_X7_of  hr) mi_X7_of ml_7_103 p7_0 e7_0 rfl rfl rfl rfl rfl (Nat.le_of_ble_eq_true rfl) dX7_noted_22 ?_
        intro x22 hx22
        refine g_iconst hX dX7_noted_25 ic_3 ?_
        refine g_bind (fun v : Int32 => J Z X 6 cm mm lm 45 [some (.ref (ad Z 32 0)), some (.int a1), some (.int a2), some (.int s5_3), some (.int s5_4), none] [.int v]) ?_ ?_
        · refine g_icmp_ne hX dX7_noted_26 (fun h26 => ?_) (fun h26 => ?_)
          · refine g_aload_n hX dX7_noted_29 rfl rfl ?_
            refine g_iload hX dX7_noted_30 rfl ?_
            refine g_iconst hX dX7_noted_32 ic_5 ?_
            refine g_callV hX (As := [.int s5_4, .int 5]) (fun r => (some (.int r))) (fun _ => cm) (fun _ => mm) (fun _ => lm) (fun r hr => c_X7_of  hr) mi_X7_of ml_7_103 p7_0 e7_0 rfl rfl rfl rfl rfl (Nat.le_of_ble_eq_true rfl) dX7_noted_33 ?_
            intro x33 hx33
            refine g_iload_n hX dX7_noted_36 rfl rfl ?_
            refine g_icmp_ne hX dX7_noted_37 (fun h37 => ?_) (fun h37 => ?_)
            · refine g_iconst hX dX7_noted_40 ic_1 ?_
              refine g_goto hX dX7_noted_41 ?_
              exact g_wk (lv0 := [some (.ref (ad Z 32 0)), some (.int a1), some (.int a2), some (.int s5_3), some (.int s5_4), none]) ⟨rfl, rfl, rfl, rfl, rfl, trivial⟩ (g_end (fun h => h))
            · refine g_iconst hX dX7_noted_44 ic_0 ?_
              exact g_wk (lv0 := [some (.ref (ad Z 32 0)), some (.int a1), some (.int a2), some (.int s5_3), some (.int s5_4), none]) ⟨rfl, rfl, rfl, rfl, rfl, trivial⟩ (g_end (fun h => h))
          · refine g_iconst hX dX7_noted_44 ic_0 ?_
            exact g_wk (lv0 := [some (.ref (ad Z 32 0)), some (.int a1), some (.int a2), some (.int s5_3), some (.int s5_4), none]) ⟨rfl, rfl, rfl, rfl, rfl, trivial⟩ (g_end (fun h => h))
        · intro k45_0
          show G _ _ (J Z X 6 cm mm lm 45 [some (.ref (ad Z 32 0)), some (.int a1), some (.int a2), some (.int s5_3), some (.int s5_4), none] [.int k45_0])
          refine g_istore hX dX7_noted_45 (Nat.le_of_ble_eq_true rfl) rfl ?_
          refine g_iload_n hX dX7_noted_47 rfl rfl ?_
          refine g_iload hX dX7_noted_48 rfl ?_
          refine g_if_eq hX dX7_noted_50 (fun h50 => ?_) (fun h50 => ?_)
          · refine g_iconst hX dX7_noted_75 ic_0 ?_
            refine g_iadd hX dX7_noted_76 ?_
            refine g_istore_n hX dX7_noted_77 rfl (Nat.le_of_ble_eq_true rfl) rfl ?_
            refine g_iinc hX dX7_noted_78 ic_1 rfl (Nat.le_of_ble_eq_true rfl) rfl ?_
            refine g_goto hX dX7_noted_81 ?_
            exact g_wk (lv0 := [some (.ref (ad Z 32 0)), some (.int a1), some (.int a2), some (.int (s5_3 + 0)), some (.int (s5_4 + 1)), none]) ⟨rfl, rfl, rfl, rfl, rfl, trivial⟩ (g_end (fun h => h))
          · refine g_iload_n hX dX7_noted_53 rfl rfl ?_
            refine g_bipush hX dX7_noted_54 bp_m9 ?_
            refine g_icmp_eq hX dX7_noted_56 (fun h56 => ?_) (fun h56 => ?_)
            · refine g_iconst hX dX7_noted_71 ic_1 ?_
              refine g_goto hX dX7_noted_72 ?_
              refine g_iadd hX dX7_noted_76 ?_
              refine g_istore_n hX dX7_noted_77 rfl (Nat.le_of_ble_eq_true rfl) rfl ?_
              refine g_iinc hX dX7_noted_78 ic_1 rfl (Nat.le_of_ble_eq_true rfl) rfl ?_
              refine g_goto hX dX7_noted_81 ?_
              exact g_wk (lv0 := [some (.ref (ad Z 32 0)), some (.int a1), some (.int a2), some (.int (s5_3 + 1)), some (.int (s5_4 + 1)), none]) ⟨rfl, rfl, rfl, rfl, rfl, trivial⟩ (g_end (fun h => h))
            · refine g_aload_n hX dX7_noted_59 rfl rfl ?_
              refine g_iload hX dX7_noted_60 rfl ?_
              refine g_bipush hX dX7_noted_62 bp_6 ?_
              refine g_callV hX (As := [.int s5_4, .int 6]) (fun r => (some (.int r))) (fun _ => cm) (fun _ => mm) (fun _ => lm) (fun r hr => c_X7_of  hr) mi_X7_of ml_7_103 p7_0 e7_0 rfl rfl rfl rfl rfl (Nat.le_of_ble_eq_true rfl) dX7_noted_64 ?_
              intro x64 hx64
              refine g_iload_n hX dX7_noted_67 rfl rfl ?_
              refine g_icmp_ne hX dX7_noted_68 (fun h68 => ?_) (fun h68 => ?_)
              · refine g_iconst hX dX7_noted_71 ic_1 ?_
                refine g_goto hX dX7_noted_72 ?_
                refine g_iadd hX dX7_noted_76 ?_
                refine g_istore_n hX dX7_noted_77 rfl (Nat.le_of_ble_eq_true rfl) rfl ?_
                refine g_iinc hX dX7_noted_78 ic_1 rfl (Nat.le_of_ble_eq_true rfl) rfl ?_
                refine g_goto hX dX7_noted_81 ?_
                exact g_wk (lv0 := [some (.ref (ad Z 32 0)), some (.int a1), some (.int a2), some (.int (s5_3 + 1)), some (.int (s5_4 + 1)), none]) ⟨rfl, rfl, rfl, rfl, rfl, trivial⟩ (g_end (fun h => h))
              · refine g_iconst hX dX7_noted_75 ic_0 ?_
                refine g_iadd hX dX7_noted_76 ?_
                refine g_istore_n hX dX7_noted_77 rfl (Nat.le_of_ble_eq_true rfl) rfl ?_
                refine g_iinc hX dX7_noted_78 ic_1 rfl (Nat.le_of_ble_eq_true rfl) rfl ?_
                refine g_goto hX dX7_noted_81 ?_
                exact g_wk (lv0 := [some (.ref (ad Z 32 0)), some (.int a1), some (.int a2), some (.int (s5_3 + 0)), some (.int (s5_4 + 1)), none]) ⟨rfl, rfl, rfl, rfl, rfl, trivial⟩ (g_end (fun h => h))
    · rintro ⟨s5_3, s5_4⟩
      show G _ _ (J Z X 6 cm mm lm 84 [some (.ref (ad Z 32 0)), some (.int a1), some (.int a2), some (.int s5_3), some (.int s5_4), none] [])
      refine g_iload_n hX dX7_noted_84 rfl rfl ?_
      exact g_iret hX (fun h => h) dX7_noted_85
  exact g r h hF

def f_X7_atLeastNone (a0 : Int32) : Option (Int32) :=
  if 0 ≤ a0 then
    some a0
  else
    some 0

abbrev rm_X7_atLeastNone : Room := { frames := 0, cells := 0, slots := 0, locals := 0 }
set_option maxHeartbeats 2000000 in
set_option maxRecDepth 20000 in
theorem c_X7_atLeastNone {Z : ZC} {cm : CM} {mm : MM} {lm : LM} {a0 : Int32} {r : Int32}  (h : f_X7_atLeastNone a0 = some r) : Ct Z yX7_atLeastNone cX7_atLeastNone 1 (some .int) rm_X7_atLeastNone [.int a0] cm mm lm (some (.int r)) cm mm lm := by
  refine Ct_of (own := RX7) [some (.int a0)] ⟨by decide, rfl⟩ rfl (Nat.le_of_ble_eq_true rfl) rfl (fun X hX hF => ?_)
  have g : G (fun r : Int32 => Fx Z X (some .int) (some (.int r)) cm mm lm) (f_X7_atLeastNone a0) (J Z X 1 cm mm lm 0 [some (.int a0)] []) := by
    unfold f_X7_atLeastNone
    refine g_iload_n hX dX7_atLeastNone_0 rfl rfl ?_
    refine g_if_ge hX dX7_atLeastNone_1 (fun h1 => ?_) (fun h1 => ?_)
    · refine g_iload_n hX dX7_atLeastNone_8 rfl rfl ?_
      exact g_iret hX (fun h => h) dX7_atLeastNone_9
    · refine g_iconst hX dX7_atLeastNone_4 ic_0 ?_
      refine g_goto hX dX7_atLeastNone_5 ?_
      exact g_iret hX (fun h => h) dX7_atLeastNone_9
  exact g r h hF

def f_X7_findFree_B43 (s2_1 : Int32) (s43_2 : Int32) (m43_ : MM) : Option ((Int32 × MM) ⊕ (Int32 × MM)) :=
  if 4 ≤ s43_2 then
    some (.inl (s43_2, m43_))
  else
    (rd 159 (m43_ 1) ((132 + (4 * s2_1)) + s43_2)).bind fun x70 =>
    (f_X7_noted m43_ s2_1 s43_2).bind fun x74 =>
    (f_X7_atLeastNone (x70 - x74)).bind fun x78 =>
    (wr 16 (m43_ 5) ((4 * s2_1) + s43_2) x78).bind fun g81 =>
    some (.inr (s43_2 + 1, u2 m43_ 5 g81))

def f_X7_findFree_B2 (s2_1 : Int32) (m2_ : MM) : Option ((Int32 × MM) ⊕ (Int32 × MM)) :=
  if 4 ≤ s2_1 then
    some (.inl (s2_1, m2_))
  else
    (rd 159 (m2_ 1) (128 + s2_1)).bind fun x21 =>
    (f_X7_noted m2_ s2_1 (-9)).bind fun x26 =>
    (f_X7_atLeastNone (x21 - x26)).bind fun x30 =>
    (wr 4 (m2_ 4) s2_1 x30).bind fun g33 =>
    (wr 4 ((u2 m2_ 4 g33) 6) s2_1 0).bind fun g40 =>
    (itr (fun s : Int32 × MM => f_X7_findFree_B43 s2_1 s.1 s.2) 2000 (0, u2 (u2 m2_ 4 g33) 6 g40)).bind fun (s43_2, m43_) =>
    some (.inr (s2_1 + 1, m43_))

def f_X7_findFree (mm : MM) : Option (MM) :=
  (itr (fun s : Int32 × MM => f_X7_findFree_B2 s.1 s.2) 2000 (0, mm)).bind fun (s2_1, m2_) =>
  some m2_

abbrev rm_X7_findFree : Room := { frames := 2, cells := 0, slots := 0, locals := 47 }
set_option maxHeartbeats 2000000 in
set_option maxRecDepth 20000 in
theorem c_X7_findFree {Z : ZC} {cm : CM} {mm : MM} {lm : LM} {r : MM}  (h : f_X7_findFree mm = some r) : Ct Z yX7_findFree cX7_findFree 3 none rm_X7_findFree [.ref (ad Z 32 0)] cm mm lm none cm r lm := by
  refine Ct_of (own := RX7) [some (.ref (ad Z 32 0)), none, none] ⟨by decide, rfl⟩ rfl (Nat.le_of_ble_eq_true rfl) rfl (fun X hX hF => ?_)
  have g : G (fun r : MM => Fx Z X none none cm r lm) (f_X7_findFree mm) (J Z X 3 cm mm lm 0 [some (.ref (ad Z 32 0)), none, none] []) := by
    unfold f_X7_findFree
    refine g_iconst hX dX7_findFree_0 ic_0 ?_
    refine g_istore_n hX dX7_findFree_1 rfl (Nat.le_of_ble_eq_true rfl) rfl ?_
    refine g_loop (Hd := fun s : Int32 × MM => J Z X 3 cm s.2 lm 2 [some (.ref (ad Z 32 0)), some (.int s.1), none] []) (Ex := fun s : Int32 × MM => J Z X 3 cm s.2 lm 94 [some (.ref (ad Z 32 0)), some (.int s.1), none] []) ?_ ?_
    · rintro ⟨s2_1, m2_⟩
      show G _ (f_X7_findFree_B2 s2_1 m2_) (J Z X 3 cm m2_ lm 2 [some (.ref (ad Z 32 0)), some (.int s2_1), none] [])
      unfold f_X7_findFree_B2
      refine g_iload_n hX dX7_findFree_2 rfl rfl ?_
      refine g_iconst hX dX7_findFree_3 ic_4 ?_
      refine g_icmp_ge hX dX7_findFree_4 (fun h4 => ?_) (fun h4 => ?_)
      · exact g_wk (lv0 := [some (.ref (ad Z 32 0)), some (.int s2_1), none]) ⟨rfl, rfl, trivial⟩ (g_end (fun h => h))
      · refine g_aload_n hX dX7_findFree_7 rfl rfl ?_
        refine g_get hX fi_7_19 p7_0 e7_0 rfl dX7_findFree_8 ?_
        refine g_iload_n hX dX7_findFree_11 rfl rfl ?_
        refine g_aload_n hX dX7_findFree_12 rfl rfl ?_
        refine g_get hX fi_7_7 p7_0 e7_0 rfl dX7_findFree_13 ?_
        refine g_sipush hX dX7_findFree_16 sp_128 ?_
        refine g_iload_n hX dX7_findFree_19 rfl rfl ?_
        refine g_iadd hX dX7_findFree_20 ?_
        refine g_iald hX p7_1 e7_1 dX7_findFree_21 ?_
        intro x21 hx21
        refine g_aload_n hX dX7_findFree_22 rfl rfl ?_
        refine g_iload_n hX dX7_findFree_23 rfl rfl ?_
        refine g_bipush hX dX7_findFree_24 bp_m9 ?_
        refine g_callV hX (As := [.int s2_1, .int (-9)]) (fun r => (some (.int r))) (fun _ => cm) (fun _ => m2_) (fun _ => lm) (fun r hr => c_X7_noted  hr) mi_X7_noted ml_7_114 p7_0 e7_0 rfl rfl rfl rfl rfl (Nat.le_of_ble_eq_true rfl) dX7_findFree_26 ?_
        intro x26 hx26
        refine g_isub hX dX7_findFree_29 ?_
        refine g_callS hX (As := [.int (x21 - x26)]) (fun r => (some (.int r))) (fun _ => cm) (fun _ => m2_) (fun _ => lm) (fun r hr => c_X7_atLeastNone  hr) mi_X7_atLeastNone ml_7_117 rfl rfl rfl (Nat.le_of_ble_eq_true rfl) dX7_findFree_30 ?_
        intro x30 hx30
        refine g_iastM hX p7_4 (s7_4 Z _) dX7_findFree_33 ?_
        intro g33 hg33
        refine g_aload_n hX dX7_findFree_34 rfl rfl ?_
        refine g_get hX fi_7_25 p7_0 e7_0 rfl dX7_findFree_35 ?_
        refine g_iload_n hX dX7_findFree_38 rfl rfl ?_
        refine g_iconst hX dX7_findFree_39 ic_0 ?_
        refine g_iastM hX p7_6 (s7_6 Z _) dX7_findFree_40 ?_
        intro g40 hg40
        refine g_iconst hX dX7_findFree_41 ic_0 ?_
        refine g_istore_n hX dX7_findFree_42 rfl (Nat.le_of_ble_eq_true rfl) rfl ?_
        refine g_loop (Hd := fun s : Int32 × MM => J Z X 3 cm s.2 lm 43 [some (.ref (ad Z 32 0)), some (.int s2_1), some (.int s.1)] []) (Ex := fun s : Int32 × MM => J Z X 3 cm s.2 lm 88 [some (.ref (ad Z 32 0)), some (.int s2_1), some (.int s.1)] []) ?_ ?_
        · rintro ⟨s43_2, m43_⟩
          show G _ (f_X7_findFree_B43 s2_1 s43_2 m43_) (J Z X 3 cm m43_ lm 43 [some (.ref (ad Z 32 0)), some (.int s2_1), some (.int s43_2)] [])
          unfold f_X7_findFree_B43
          refine g_iload_n hX dX7_findFree_43 rfl rfl ?_
          refine g_iconst hX dX7_findFree_44 ic_4 ?_
          refine g_icmp_ge hX dX7_findFree_45 (fun h45 => ?_) (fun h45 => ?_)
          · exact g_wk (lv0 := [some (.ref (ad Z 32 0)), some (.int s2_1), some (.int s43_2)]) ⟨rfl, rfl, rfl, trivial⟩ (g_end (fun h => h))
          · refine g_aload_n hX dX7_findFree_48 rfl rfl ?_
            refine g_get hX fi_7_22 p7_0 e7_0 rfl dX7_findFree_49 ?_
            refine g_iconst hX dX7_findFree_52 ic_4 ?_
            refine g_iload_n hX dX7_findFree_53 rfl rfl ?_
            refine g_imul hX dX7_findFree_54 ?_
            refine g_iload_n hX dX7_findFree_55 rfl rfl ?_
            refine g_iadd hX dX7_findFree_56 ?_
            refine g_aload_n hX dX7_findFree_57 rfl rfl ?_
            refine g_get hX fi_7_7 p7_0 e7_0 rfl dX7_findFree_58 ?_
            refine g_sipush hX dX7_findFree_61 sp_132 ?_
            refine g_iconst hX dX7_findFree_64 ic_4 ?_
            refine g_iload_n hX dX7_findFree_65 rfl rfl ?_
            refine g_imul hX dX7_findFree_66 ?_
            refine g_iadd hX dX7_findFree_67 ?_
            refine g_iload_n hX dX7_findFree_68 rfl rfl ?_
            refine g_iadd hX dX7_findFree_69 ?_
            refine g_iald hX p7_1 e7_1 dX7_findFree_70 ?_
            intro x70 hx70
            refine g_aload_n hX dX7_findFree_71 rfl rfl ?_
            refine g_iload_n hX dX7_findFree_72 rfl rfl ?_
            refine g_iload_n hX dX7_findFree_73 rfl rfl ?_
            refine g_callV hX (As := [.int s2_1, .int s43_2]) (fun r => (some (.int r))) (fun _ => cm) (fun _ => m43_) (fun _ => lm) (fun r hr => c_X7_noted  hr) mi_X7_noted ml_7_114 p7_0 e7_0 rfl rfl rfl rfl rfl (Nat.le_of_ble_eq_true rfl) dX7_findFree_74 ?_
            intro x74 hx74
            refine g_isub hX dX7_findFree_77 ?_
            refine g_callS hX (As := [.int (x70 - x74)]) (fun r => (some (.int r))) (fun _ => cm) (fun _ => m43_) (fun _ => lm) (fun r hr => c_X7_atLeastNone  hr) mi_X7_atLeastNone ml_7_117 rfl rfl rfl (Nat.le_of_ble_eq_true rfl) dX7_findFree_78 ?_
            intro x78 hx78
            refine g_iastM hX p7_5 (s7_5 Z _) dX7_findFree_81 ?_
            intro g81 hg81
            refine g_iinc hX dX7_findFree_82 ic_1 rfl (Nat.le_of_ble_eq_true rfl) rfl ?_
            refine g_goto hX dX7_findFree_85 ?_
            exact g_wk (lv0 := [some (.ref (ad Z 32 0)), some (.int s2_1), some (.int (s43_2 + 1))]) ⟨rfl, rfl, rfl, trivial⟩ (g_end (fun h => h))
        · rintro ⟨s43_2, m43_⟩
          show G _ _ (J Z X 3 cm m43_ lm 88 [some (.ref (ad Z 32 0)), some (.int s2_1), some (.int s43_2)] [])
          refine g_iinc hX dX7_findFree_88 ic_1 rfl (Nat.le_of_ble_eq_true rfl) rfl ?_
          refine g_goto hX dX7_findFree_91 ?_
          exact g_wk (lv0 := [some (.ref (ad Z 32 0)), some (.int (s2_1 + 1)), none]) ⟨rfl, rfl, trivial⟩ (g_end (fun h => h))
    · rintro ⟨s2_1, m2_⟩
      show G _ _ (J Z X 3 cm m2_ lm 94 [some (.ref (ad Z 32 0)), some (.int s2_1), none] [])
      exact g_vret hX (fun h => h) dX7_findFree_94
  exact g r h hF

def f_X7_isIn (a0 a1 : Int32) : Option (Int32) :=
  some ((a0 >>> (a1 &&& 31)) &&& 1)

abbrev rm_X7_isIn : Room := { frames := 0, cells := 0, slots := 0, locals := 0 }
set_option maxHeartbeats 2000000 in
set_option maxRecDepth 20000 in
theorem c_X7_isIn {Z : ZC} {cm : CM} {mm : MM} {lm : LM} {a0 a1 : Int32} {r : Int32}  (h : f_X7_isIn a0 a1 = some r) : Ct Z yX7_isIn cX7_isIn 2 (some .int) rm_X7_isIn [.int a0, .int a1] cm mm lm (some (.int r)) cm mm lm := by
  refine Ct_of (own := RX7) [some (.int a0), some (.int a1)] ⟨by decide, rfl⟩ rfl (Nat.le_of_ble_eq_true rfl) rfl (fun X hX hF => ?_)
  have g : G (fun r : Int32 => Fx Z X (some .int) (some (.int r)) cm mm lm) (f_X7_isIn a0 a1) (J Z X 2 cm mm lm 0 [some (.int a0), some (.int a1)] []) := by
    unfold f_X7_isIn
    refine g_iload_n hX dX7_isIn_0 rfl rfl ?_
    refine g_iload_n hX dX7_isIn_1 rfl rfl ?_
    refine g_ishr hX dX7_isIn_2 ?_
    refine g_iconst hX dX7_isIn_3 ic_1 ?_
    refine g_iand hX dX7_isIn_4 ?_
    exact g_iret hX (fun h => h) dX7_isIn_5
  exact g r h hF

def f_X7_sumHave_B17 (s2_1 : Int32) (s17_2 : Int32) (m17_ : MM) : Option ((Int32 × MM) ⊕ (Int32 × MM)) :=
  if 4 ≤ s17_2 then
    some (.inl (s17_2, m17_))
  else
    (rd 16 (m17_ 13) s2_1).bind fun x28 =>
    (f_X7_isIn s2_1 s17_2).bind fun x31 =>
    (rd 4 (m17_ 16) s17_2).bind fun x39 =>
    (wr 16 (m17_ 13) s2_1 (x28 + (x31 * x39))).bind fun g42 =>
    some (.inr (s17_2 + 1, u2 m17_ 13 g42))

def f_X7_sumHave_B2 (s2_1 : Int32) (m2_ : MM) : Option ((Int32 × MM) ⊕ (Int32 × MM)) :=
  if 16 ≤ s2_1 then
    some (.inl (s2_1, m2_))
  else
    (wr 16 (m2_ 13) s2_1 0).bind fun g14 =>
    (itr (fun s : Int32 × MM => f_X7_sumHave_B17 s2_1 s.1 s.2) 2000 (0, u2 m2_ 13 g14)).bind fun (s17_2, m17_) =>
    some (.inr (s2_1 + 1, m17_))

def f_X7_sumHave (mm : MM) : Option (MM) :=
  (itr (fun s : Int32 × MM => f_X7_sumHave_B2 s.1 s.2) 2000 (0, mm)).bind fun (s2_1, m2_) =>
  some m2_

abbrev rm_X7_sumHave : Room := { frames := 1, cells := 0, slots := 0, locals := 21 }
set_option maxHeartbeats 2000000 in
set_option maxRecDepth 20000 in
theorem c_X7_sumHave {Z : ZC} {cm : CM} {mm : MM} {lm : LM} {r : MM}  (h : f_X7_sumHave mm = some r) : Ct Z yX7_sumHave cX7_sumHave 3 none rm_X7_sumHave [.ref (ad Z 32 0)] cm mm lm none cm r lm := by
  refine Ct_of (own := RX7) [some (.ref (ad Z 32 0)), none, none] ⟨by decide, rfl⟩ rfl (Nat.le_of_ble_eq_true rfl) rfl (fun X hX hF => ?_)
  have g : G (fun r : MM => Fx Z X none none cm r lm) (f_X7_sumHave mm) (J Z X 3 cm mm lm 0 [some (.ref (ad Z 32 0)), none, none] []) := by
    unfold f_X7_sumHave
    refine g_iconst hX dX7_sumHave_0 ic_0 ?_
    refine g_istore_n hX dX7_sumHave_1 rfl (Nat.le_of_ble_eq_true rfl) rfl ?_
    refine g_loop (Hd := fun s : Int32 × MM => J Z X 3 cm s.2 lm 2 [some (.ref (ad Z 32 0)), some (.int s.1), none] []) (Ex := fun s : Int32 × MM => J Z X 3 cm s.2 lm 55 [some (.ref (ad Z 32 0)), some (.int s.1), none] []) ?_ ?_
    · rintro ⟨s2_1, m2_⟩
      show G _ (f_X7_sumHave_B2 s2_1 m2_) (J Z X 3 cm m2_ lm 2 [some (.ref (ad Z 32 0)), some (.int s2_1), none] [])
      unfold f_X7_sumHave_B2
      refine g_iload_n hX dX7_sumHave_2 rfl rfl ?_
      refine g_bipush hX dX7_sumHave_3 bp_16 ?_
      refine g_icmp_ge hX dX7_sumHave_5 (fun h5 => ?_) (fun h5 => ?_)
      · exact g_wk (lv0 := [some (.ref (ad Z 32 0)), some (.int s2_1), none]) ⟨rfl, rfl, trivial⟩ (g_end (fun h => h))
      · refine g_aload_n hX dX7_sumHave_8 rfl rfl ?_
        refine g_get hX fi_7_47 p7_0 e7_0 rfl dX7_sumHave_9 ?_
        refine g_iload_n hX dX7_sumHave_12 rfl rfl ?_
        refine g_iconst hX dX7_sumHave_13 ic_0 ?_
        refine g_iastM hX p7_13 (s7_13 Z _) dX7_sumHave_14 ?_
        intro g14 hg14
        refine g_iconst hX dX7_sumHave_15 ic_0 ?_
        refine g_istore_n hX dX7_sumHave_16 rfl (Nat.le_of_ble_eq_true rfl) rfl ?_
        refine g_loop (Hd := fun s : Int32 × MM => J Z X 3 cm s.2 lm 17 [some (.ref (ad Z 32 0)), some (.int s2_1), some (.int s.1)] []) (Ex := fun s : Int32 × MM => J Z X 3 cm s.2 lm 49 [some (.ref (ad Z 32 0)), some (.int s2_1), some (.int s.1)] []) ?_ ?_
        · rintro ⟨s17_2, m17_⟩
          show G _ (f_X7_sumHave_B17 s2_1 s17_2 m17_) (J Z X 3 cm m17_ lm 17 [some (.ref (ad Z 32 0)), some (.int s2_1), some (.int s17_2)] [])
          unfold f_X7_sumHave_B17
          refine g_iload_n hX dX7_sumHave_17 rfl rfl ?_
          refine g_iconst hX dX7_sumHave_18 ic_4 ?_
          refine g_icmp_ge hX dX7_sumHave_19 (fun h19 => ?_) (fun h19 => ?_)
          · exact g_wk (lv0 := [some (.ref (ad Z 32 0)), some (.int s2_1), some (.int s17_2)]) ⟨rfl, rfl, rfl, trivial⟩ (g_end (fun h => h))
          · refine g_aload_n hX dX7_sumHave_22 rfl rfl ?_
            refine g_get hX fi_7_47 p7_0 e7_0 rfl dX7_sumHave_23 ?_
            refine g_iload_n hX dX7_sumHave_26 rfl rfl ?_
            refine g_dup2 hX dX7_sumHave_27 rfl rfl ?_
            refine g_iald hX p7_13 e7_13 dX7_sumHave_28 ?_
            intro x28 hx28
            refine g_iload_n hX dX7_sumHave_29 rfl rfl ?_
            refine g_iload_n hX dX7_sumHave_30 rfl rfl ?_
            refine g_callS hX (As := [.int s2_1, .int s17_2]) (fun r => (some (.int r))) (fun _ => cm) (fun _ => m17_) (fun _ => lm) (fun r hr => c_X7_isIn  hr) mi_X7_isIn ml_7_120 rfl rfl rfl (Nat.le_of_ble_eq_true rfl) dX7_sumHave_31 ?_
            intro x31 hx31
            refine g_aload_n hX dX7_sumHave_34 rfl rfl ?_
            refine g_get hX fi_7_56 p7_0 e7_0 rfl dX7_sumHave_35 ?_
            refine g_iload_n hX dX7_sumHave_38 rfl rfl ?_
            refine g_iald hX p7_16 e7_16 dX7_sumHave_39 ?_
            intro x39 hx39
            refine g_imul hX dX7_sumHave_40 ?_
            refine g_iadd hX dX7_sumHave_41 ?_
            refine g_iastM hX p7_13 (s7_13 Z _) dX7_sumHave_42 ?_
            intro g42 hg42
            refine g_iinc hX dX7_sumHave_43 ic_1 rfl (Nat.le_of_ble_eq_true rfl) rfl ?_
            refine g_goto hX dX7_sumHave_46 ?_
            exact g_wk (lv0 := [some (.ref (ad Z 32 0)), some (.int s2_1), some (.int (s17_2 + 1))]) ⟨rfl, rfl, rfl, trivial⟩ (g_end (fun h => h))
        · rintro ⟨s17_2, m17_⟩
          show G _ _ (J Z X 3 cm m17_ lm 49 [some (.ref (ad Z 32 0)), some (.int s2_1), some (.int s17_2)] [])
          refine g_iinc hX dX7_sumHave_49 ic_1 rfl (Nat.le_of_ble_eq_true rfl) rfl ?_
          refine g_goto hX dX7_sumHave_52 ?_
          exact g_wk (lv0 := [some (.ref (ad Z 32 0)), some (.int (s2_1 + 1)), none]) ⟨rfl, rfl, trivial⟩ (g_end (fun h => h))
    · rintro ⟨s2_1, m2_⟩
      show G _ _ (J Z X 3 cm m2_ lm 55 [some (.ref (ad Z 32 0)), some (.int s2_1), none] [])
      exact g_vret hX (fun h => h) dX7_sumHave_55
  exact g r h hF

def f_X7_leaveAll_B2 (a1 : Int32) (s2_2 : Int32) (m2_ : MM) : Option ((Int32 × MM) ⊕ (Int32 × MM)) :=
  if 4 ≤ s2_2 then
    some (.inl (s2_2, m2_))
  else
    (rd 16 (m2_ 5) ((4 * a1) + s2_2)).bind fun x21 =>
    (wr 4 (m2_ 16) s2_2 x21).bind fun g22 =>
    some (.inr (s2_2 + 1, u2 m2_ 16 g22))

def f_X7_leaveAll (mm : MM) (a1 : Int32) : Option (MM) :=
  (itr (fun s : Int32 × MM => f_X7_leaveAll_B2 a1 s.1 s.2) 2000 (0, mm)).bind fun (s2_2, m2_) =>
  some m2_

abbrev rm_X7_leaveAll : Room := { frames := 0, cells := 0, slots := 0, locals := 0 }
set_option maxHeartbeats 2000000 in
set_option maxRecDepth 20000 in
theorem c_X7_leaveAll {Z : ZC} {cm : CM} {mm : MM} {lm : LM} {a1 : Int32} {r : MM}  (h : f_X7_leaveAll mm a1 = some r) : Ct Z yX7_leaveAll cX7_leaveAll 3 none rm_X7_leaveAll [.ref (ad Z 32 0), .int a1] cm mm lm none cm r lm := by
  refine Ct_of (own := RX7) [some (.ref (ad Z 32 0)), some (.int a1), none] ⟨by decide, rfl⟩ rfl (Nat.le_of_ble_eq_true rfl) rfl (fun X hX hF => ?_)
  have g : G (fun r : MM => Fx Z X none none cm r lm) (f_X7_leaveAll mm a1) (J Z X 3 cm mm lm 0 [some (.ref (ad Z 32 0)), some (.int a1), none] []) := by
    unfold f_X7_leaveAll
    refine g_iconst hX dX7_leaveAll_0 ic_0 ?_
    refine g_istore_n hX dX7_leaveAll_1 rfl (Nat.le_of_ble_eq_true rfl) rfl ?_
    refine g_loop (Hd := fun s : Int32 × MM => J Z X 3 cm s.2 lm 2 [some (.ref (ad Z 32 0)), some (.int a1), some (.int s.1)] []) (Ex := fun s : Int32 × MM => J Z X 3 cm s.2 lm 29 [some (.ref (ad Z 32 0)), some (.int a1), some (.int s.1)] []) ?_ ?_
    · rintro ⟨s2_2, m2_⟩
      show G _ (f_X7_leaveAll_B2 a1 s2_2 m2_) (J Z X 3 cm m2_ lm 2 [some (.ref (ad Z 32 0)), some (.int a1), some (.int s2_2)] [])
      unfold f_X7_leaveAll_B2
      refine g_iload_n hX dX7_leaveAll_2 rfl rfl ?_
      refine g_iconst hX dX7_leaveAll_3 ic_4 ?_
      refine g_icmp_ge hX dX7_leaveAll_4 (fun h4 => ?_) (fun h4 => ?_)
      · exact g_wk (lv0 := [some (.ref (ad Z 32 0)), some (.int a1), some (.int s2_2)]) ⟨rfl, rfl, rfl, trivial⟩ (g_end (fun h => h))
      · refine g_aload_n hX dX7_leaveAll_7 rfl rfl ?_
        refine g_get hX fi_7_56 p7_0 e7_0 rfl dX7_leaveAll_8 ?_
        refine g_iload_n hX dX7_leaveAll_11 rfl rfl ?_
        refine g_aload_n hX dX7_leaveAll_12 rfl rfl ?_
        refine g_get hX fi_7_22 p7_0 e7_0 rfl dX7_leaveAll_13 ?_
        refine g_iconst hX dX7_leaveAll_16 ic_4 ?_
        refine g_iload_n hX dX7_leaveAll_17 rfl rfl ?_
        refine g_imul hX dX7_leaveAll_18 ?_
        refine g_iload_n hX dX7_leaveAll_19 rfl rfl ?_
        refine g_iadd hX dX7_leaveAll_20 ?_
        refine g_iald hX p7_5 e7_5 dX7_leaveAll_21 ?_
        intro x21 hx21
        refine g_iastM hX p7_16 (s7_16 Z _) dX7_leaveAll_22 ?_
        intro g22 hg22
        refine g_iinc hX dX7_leaveAll_23 ic_1 rfl (Nat.le_of_ble_eq_true rfl) rfl ?_
        refine g_goto hX dX7_leaveAll_26 ?_
        exact g_wk (lv0 := [some (.ref (ad Z 32 0)), some (.int a1), some (.int (s2_2 + 1))]) ⟨rfl, rfl, rfl, trivial⟩ (g_end (fun h => h))
    · rintro ⟨s2_2, m2_⟩
      show G _ _ (J Z X 3 cm m2_ lm 29 [some (.ref (ad Z 32 0)), some (.int a1), some (.int s2_2)] [])
      exact g_vret hX (fun h => h) dX7_leaveAll_29
  exact g r h hF

def f_X7_addOther_B2 (a1 : Int32) (a2 : Int32) (s2_3 : Int32) (m2_ : MM) : Option ((Int32 × MM) ⊕ (Int32 × MM)) :=
  if 16 ≤ s2_3 then
    some (.inl (s2_3, m2_))
  else
    (rd 16 (m2_ 14) s2_3).bind fun x14 =>
    (f_X7_of m2_ a1 3).bind fun x18 =>
    if (x18 &&& (s2_3 ^^^ (-1))) = 0 then
      (wr 16 (m2_ 14) s2_3 (x14 + 0)).bind fun g34 =>
      some (.inr (s2_3 + 1, u2 m2_ 14 g34))
    else
      (wr 16 (m2_ 14) s2_3 (x14 + a2)).bind fun g34 =>
      some (.inr (s2_3 + 1, u2 m2_ 14 g34))

def f_X7_addOther (mm : MM) (a1 a2 : Int32) : Option (MM) :=
  (itr (fun s : Int32 × MM => f_X7_addOther_B2 a1 a2 s.1 s.2) 2000 (0, mm)).bind fun (s2_3, m2_) =>
  some m2_

abbrev rm_X7_addOther : Room := { frames := 1, cells := 0, slots := 0, locals := 22 }
set_option maxHeartbeats 2000000 in
set_option maxRecDepth 20000 in
theorem c_X7_addOther {Z : ZC} {cm : CM} {mm : MM} {lm : LM} {a1 a2 : Int32} {r : MM}  (h : f_X7_addOther mm a1 a2 = some r) : Ct Z yX7_addOther cX7_addOther 4 none rm_X7_addOther [.ref (ad Z 32 0), .int a1, .int a2] cm mm lm none cm r lm := by
  refine Ct_of (own := RX7) [some (.ref (ad Z 32 0)), some (.int a1), some (.int a2), none] ⟨by decide, rfl⟩ rfl (Nat.le_of_ble_eq_true rfl) rfl (fun X hX hF => ?_)
  have g : G (fun r : MM => Fx Z X none none cm r lm) (f_X7_addOther mm a1 a2) (J Z X 4 cm mm lm 0 [some (.ref (ad Z 32 0)), some (.int a1), some (.int a2), none] []) := by
    unfold f_X7_addOther
    refine g_iconst hX dX7_addOther_0 ic_0 ?_
    refine g_istore_n hX dX7_addOther_1 rfl (Nat.le_of_ble_eq_true rfl) rfl ?_
    refine g_loop (Hd := fun s : Int32 × MM => J Z X 4 cm s.2 lm 2 [some (.ref (ad Z 32 0)), some (.int a1), some (.int a2), some (.int s.1)] []) (Ex := fun s : Int32 × MM => J Z X 4 cm s.2 lm 41 [some (.ref (ad Z 32 0)), some (.int a1), some (.int a2), some (.int s.1)] []) ?_ ?_
    · rintro ⟨s2_3, m2_⟩
      show G _ (f_X7_addOther_B2 a1 a2 s2_3 m2_) (J Z X 4 cm m2_ lm 2 [some (.ref (ad Z 32 0)), some (.int a1), some (.int a2), some (.int s2_3)] [])
      unfold f_X7_addOther_B2
      refine g_iload_n hX dX7_addOther_2 rfl rfl ?_
      refine g_bipush hX dX7_addOther_3 bp_16 ?_
      refine g_icmp_ge hX dX7_addOther_5 (fun h5 => ?_) (fun h5 => ?_)
      · exact g_wk (lv0 := [some (.ref (ad Z 32 0)), some (.int a1), some (.int a2), some (.int s2_3)]) ⟨rfl, rfl, rfl, rfl, trivial⟩ (g_end (fun h => h))
      · refine g_aload_n hX dX7_addOther_8 rfl rfl ?_
        refine g_get hX fi_7_50 p7_0 e7_0 rfl dX7_addOther_9 ?_
        refine g_iload_n hX dX7_addOther_12 rfl rfl ?_
        refine g_dup2 hX dX7_addOther_13 rfl rfl ?_
        refine g_iald hX p7_14 e7_14 dX7_addOther_14 ?_
        intro x14 hx14
        refine g_aload_n hX dX7_addOther_15 rfl rfl ?_
        refine g_iload_n hX dX7_addOther_16 rfl rfl ?_
        refine g_iconst hX dX7_addOther_17 ic_3 ?_
        refine g_callV hX (As := [.int a1, .int 3]) (fun r => (some (.int r))) (fun _ => cm) (fun _ => m2_) (fun _ => lm) (fun r hr => c_X7_of  hr) mi_X7_of ml_7_103 p7_0 e7_0 rfl rfl rfl rfl rfl (Nat.le_of_ble_eq_true rfl) dX7_addOther_18 ?_
        intro x18 hx18
        refine g_iload_n hX dX7_addOther_21 rfl rfl ?_
        refine g_iconst hX dX7_addOther_22 ic_m1 ?_
        refine g_ixor hX dX7_addOther_23 ?_
        refine g_iand hX dX7_addOther_24 ?_
        refine g_if_eq hX dX7_addOther_25 (fun h25 => ?_) (fun h25 => ?_)
        · refine g_iconst hX dX7_addOther_32 ic_0 ?_
          refine g_iadd hX dX7_addOther_33 ?_
          refine g_iastM hX p7_14 (s7_14 Z _) dX7_addOther_34 ?_
          intro g34 hg34
          refine g_iinc hX dX7_addOther_35 ic_1 rfl (Nat.le_of_ble_eq_true rfl) rfl ?_
          refine g_goto hX dX7_addOther_38 ?_
          exact g_wk (lv0 := [some (.ref (ad Z 32 0)), some (.int a1), some (.int a2), some (.int (s2_3 + 1))]) ⟨rfl, rfl, rfl, rfl, trivial⟩ (g_end (fun h => h))
        · refine g_iload_n hX dX7_addOther_28 rfl rfl ?_
          refine g_goto hX dX7_addOther_29 ?_
          refine g_iadd hX dX7_addOther_33 ?_
          refine g_iastM hX p7_14 (s7_14 Z _) dX7_addOther_34 ?_
          intro g34 hg34
          refine g_iinc hX dX7_addOther_35 ic_1 rfl (Nat.le_of_ble_eq_true rfl) rfl ?_
          refine g_goto hX dX7_addOther_38 ?_
          exact g_wk (lv0 := [some (.ref (ad Z 32 0)), some (.int a1), some (.int a2), some (.int (s2_3 + 1))]) ⟨rfl, rfl, rfl, rfl, trivial⟩ (g_end (fun h => h))
    · rintro ⟨s2_3, m2_⟩
      show G _ _ (J Z X 4 cm m2_ lm 41 [some (.ref (ad Z 32 0)), some (.int a1), some (.int a2), some (.int s2_3)] [])
      exact g_vret hX (fun h => h) dX7_addOther_41
  exact g r h hF

def f_X7_noOthers_B2 (s2_1 : Int32) (m2_ : MM) : Option ((Int32 × MM) ⊕ (Int32 × MM)) :=
  if 16 ≤ s2_1 then
    some (.inl (s2_1, m2_))
  else
    (wr 16 (m2_ 14) s2_1 0).bind fun g14 =>
    some (.inr (s2_1 + 1, u2 m2_ 14 g14))

def f_X7_noOthers (mm : MM) : Option (MM) :=
  (itr (fun s : Int32 × MM => f_X7_noOthers_B2 s.1 s.2) 2000 (0, mm)).bind fun (s2_1, m2_) =>
  some m2_

abbrev rm_X7_noOthers : Room := { frames := 0, cells := 0, slots := 0, locals := 0 }
set_option maxHeartbeats 2000000 in
set_option maxRecDepth 20000 in
theorem c_X7_noOthers {Z : ZC} {cm : CM} {mm : MM} {lm : LM} {r : MM}  (h : f_X7_noOthers mm = some r) : Ct Z yX7_noOthers cX7_noOthers 2 none rm_X7_noOthers [.ref (ad Z 32 0)] cm mm lm none cm r lm := by
  refine Ct_of (own := RX7) [some (.ref (ad Z 32 0)), none] ⟨by decide, rfl⟩ rfl (Nat.le_of_ble_eq_true rfl) rfl (fun X hX hF => ?_)
  have g : G (fun r : MM => Fx Z X none none cm r lm) (f_X7_noOthers mm) (J Z X 2 cm mm lm 0 [some (.ref (ad Z 32 0)), none] []) := by
    unfold f_X7_noOthers
    refine g_iconst hX dX7_noOthers_0 ic_0 ?_
    refine g_istore_n hX dX7_noOthers_1 rfl (Nat.le_of_ble_eq_true rfl) rfl ?_
    refine g_loop (Hd := fun s : Int32 × MM => J Z X 2 cm s.2 lm 2 [some (.ref (ad Z 32 0)), some (.int s.1)] []) (Ex := fun s : Int32 × MM => J Z X 2 cm s.2 lm 21 [some (.ref (ad Z 32 0)), some (.int s.1)] []) ?_ ?_
    · rintro ⟨s2_1, m2_⟩
      show G _ (f_X7_noOthers_B2 s2_1 m2_) (J Z X 2 cm m2_ lm 2 [some (.ref (ad Z 32 0)), some (.int s2_1)] [])
      unfold f_X7_noOthers_B2
      refine g_iload_n hX dX7_noOthers_2 rfl rfl ?_
      refine g_bipush hX dX7_noOthers_3 bp_16 ?_
      refine g_icmp_ge hX dX7_noOthers_5 (fun h5 => ?_) (fun h5 => ?_)
      · exact g_wk (lv0 := [some (.ref (ad Z 32 0)), some (.int s2_1)]) ⟨rfl, rfl, trivial⟩ (g_end (fun h => h))
      · refine g_aload_n hX dX7_noOthers_8 rfl rfl ?_
        refine g_get hX fi_7_50 p7_0 e7_0 rfl dX7_noOthers_9 ?_
        refine g_iload_n hX dX7_noOthers_12 rfl rfl ?_
        refine g_iconst hX dX7_noOthers_13 ic_0 ?_
        refine g_iastM hX p7_14 (s7_14 Z _) dX7_noOthers_14 ?_
        intro g14 hg14
        refine g_iinc hX dX7_noOthers_15 ic_1 rfl (Nat.le_of_ble_eq_true rfl) rfl ?_
        refine g_goto hX dX7_noOthers_18 ?_
        exact g_wk (lv0 := [some (.ref (ad Z 32 0)), some (.int (s2_1 + 1))]) ⟨rfl, rfl, trivial⟩ (g_end (fun h => h))
    · rintro ⟨s2_1, m2_⟩
      show G _ _ (J Z X 2 cm m2_ lm 21 [some (.ref (ad Z 32 0)), some (.int s2_1)] [])
      exact g_vret hX (fun h => h) dX7_noOthers_21
  exact g r h hF

def f_X7_leastCut_B5 (mm : MM) (a1 : Int32) (s5_2 : Int32) (s5_3 : Int32) : Option ((Int32 × Int32) ⊕ (Int32 × Int32)) :=
  if 16 ≤ s5_3 then
    some (.inl (s5_2, s5_3))
  else
    (rd 16 (mm 13) s5_3).bind fun x16 =>
    (rd 16 (mm 14) s5_3).bind fun x22 =>
    ((if a1 = (-9) then
        some 0
      else
        (rd 272 (mm 15) ((16 * a1) + s5_3)).bind fun x44 =>
        some x44) : Option (Int32)).bind fun k45_0 =>
    if s5_2 ≤ ((x16 + x22) + k45_0) then
      some (.inr (s5_2, s5_3 + 1))
    else
      some (.inr ((x16 + x22) + k45_0, s5_3 + 1))

def f_X7_leastCut (mm : MM) (a1 : Int32) : Option (Int32) :=
  (itr (fun s : Int32 × Int32 => f_X7_leastCut_B5 mm a1 s.1 s.2) 2000 (16, 0)).bind fun (s5_2, s5_3) =>
  some s5_2

abbrev rm_X7_leastCut : Room := { frames := 0, cells := 0, slots := 0, locals := 0 }
set_option maxHeartbeats 2000000 in
set_option maxRecDepth 20000 in
theorem c_X7_leastCut {Z : ZC} {cm : CM} {mm : MM} {lm : LM} {a1 : Int32} {r : Int32}  (h : f_X7_leastCut mm a1 = some r) : Ct Z yX7_leastCut cX7_leastCut 5 (some .int) rm_X7_leastCut [.ref (ad Z 32 0), .int a1] cm mm lm (some (.int r)) cm mm lm := by
  refine Ct_of (own := RX7) [some (.ref (ad Z 32 0)), some (.int a1), none, none, none] ⟨by decide, rfl⟩ rfl (Nat.le_of_ble_eq_true rfl) rfl (fun X hX hF => ?_)
  have g : G (fun r : Int32 => Fx Z X (some .int) (some (.int r)) cm mm lm) (f_X7_leastCut mm a1) (J Z X 5 cm mm lm 0 [some (.ref (ad Z 32 0)), some (.int a1), none, none, none] []) := by
    unfold f_X7_leastCut
    refine g_bipush hX dX7_leastCut_0 bp_16 ?_
    refine g_istore_n hX dX7_leastCut_2 rfl (Nat.le_of_ble_eq_true rfl) rfl ?_
    refine g_iconst hX dX7_leastCut_3 ic_0 ?_
    refine g_istore_n hX dX7_leastCut_4 rfl (Nat.le_of_ble_eq_true rfl) rfl ?_
    refine g_loop (Hd := fun s : Int32 × Int32 => J Z X 5 cm mm lm 5 [some (.ref (ad Z 32 0)), some (.int a1), some (.int s.1), some (.int s.2), none] []) (Ex := fun s : Int32 × Int32 => J Z X 5 cm mm lm 67 [some (.ref (ad Z 32 0)), some (.int a1), some (.int s.1), some (.int s.2), none] []) ?_ ?_
    · rintro ⟨s5_2, s5_3⟩
      show G _ (f_X7_leastCut_B5 mm a1 s5_2 s5_3) (J Z X 5 cm mm lm 5 [some (.ref (ad Z 32 0)), some (.int a1), some (.int s5_2), some (.int s5_3), none] [])
      unfold f_X7_leastCut_B5
      refine g_iload_n hX dX7_leastCut_5 rfl rfl ?_
      refine g_bipush hX dX7_leastCut_6 bp_16 ?_
      refine g_icmp_ge hX dX7_leastCut_8 (fun h8 => ?_) (fun h8 => ?_)
      · exact g_wk (lv0 := [some (.ref (ad Z 32 0)), some (.int a1), some (.int s5_2), some (.int s5_3), none]) ⟨rfl, rfl, rfl, rfl, trivial⟩ (g_end (fun h => h))
      · refine g_aload_n hX dX7_leastCut_11 rfl rfl ?_
        refine g_get hX fi_7_47 p7_0 e7_0 rfl dX7_leastCut_12 ?_
        refine g_iload_n hX dX7_leastCut_15 rfl rfl ?_
        refine g_iald hX p7_13 e7_13 dX7_leastCut_16 ?_
        intro x16 hx16
        refine g_aload_n hX dX7_leastCut_17 rfl rfl ?_
        refine g_get hX fi_7_50 p7_0 e7_0 rfl dX7_leastCut_18 ?_
        refine g_iload_n hX dX7_leastCut_21 rfl rfl ?_
        refine g_iald hX p7_14 e7_14 dX7_leastCut_22 ?_
        intro x22 hx22
        refine g_iadd hX dX7_leastCut_23 ?_
        refine g_iload_n hX dX7_leastCut_24 rfl rfl ?_
        refine g_bipush hX dX7_leastCut_25 bp_m9 ?_
        refine g_bind (fun v : Int32 => J Z X 5 cm mm lm 45 [some (.ref (ad Z 32 0)), some (.int a1), some (.int s5_2), some (.int s5_3), none] [.int v, .int (x16 + x22)]) ?_ ?_
        · refine g_icmp_ne hX dX7_leastCut_27 (fun h27 => ?_) (fun h27 => ?_)
          · refine g_iconst hX dX7_leastCut_30 ic_0 ?_
            refine g_goto hX dX7_leastCut_31 ?_
            exact g_wk (lv0 := [some (.ref (ad Z 32 0)), some (.int a1), some (.int s5_2), some (.int s5_3), none]) ⟨rfl, rfl, rfl, rfl, trivial⟩ (g_end (fun h => h))
          · refine g_aload_n hX dX7_leastCut_34 rfl rfl ?_
            refine g_get hX fi_7_53 p7_0 e7_0 rfl dX7_leastCut_35 ?_
            refine g_bipush hX dX7_leastCut_38 bp_16 ?_
            refine g_iload_n hX dX7_leastCut_40 rfl rfl ?_
            refine g_imul hX dX7_leastCut_41 ?_
            refine g_iload_n hX dX7_leastCut_42 rfl rfl ?_
            refine g_iadd hX dX7_leastCut_43 ?_
            refine g_iald hX p7_15 e7_15 dX7_leastCut_44 ?_
            intro x44 hx44
            exact g_wk (lv0 := [some (.ref (ad Z 32 0)), some (.int a1), some (.int s5_2), some (.int s5_3), none]) ⟨rfl, rfl, rfl, rfl, trivial⟩ (g_end (fun h => h))
        · intro k45_0
          show G _ _ (J Z X 5 cm mm lm 45 [some (.ref (ad Z 32 0)), some (.int a1), some (.int s5_2), some (.int s5_3), none] [.int k45_0, .int (x16 + x22)])
          refine g_iadd hX dX7_leastCut_45 ?_
          refine g_istore hX dX7_leastCut_46 (Nat.le_of_ble_eq_true rfl) rfl ?_
          refine g_iload hX dX7_leastCut_48 rfl ?_
          refine g_iload_n hX dX7_leastCut_50 rfl rfl ?_
          refine g_icmp_ge hX dX7_leastCut_51 (fun h51 => ?_) (fun h51 => ?_)
          · refine g_iload_n hX dX7_leastCut_59 rfl rfl ?_
            refine g_istore_n hX dX7_leastCut_60 rfl (Nat.le_of_ble_eq_true rfl) rfl ?_
            refine g_iinc hX dX7_leastCut_61 ic_1 rfl (Nat.le_of_ble_eq_true rfl) rfl ?_
            refine g_goto hX dX7_leastCut_64 ?_
            exact g_wk (lv0 := [some (.ref (ad Z 32 0)), some (.int a1), some (.int s5_2), some (.int (s5_3 + 1)), none]) ⟨rfl, rfl, rfl, rfl, trivial⟩ (g_end (fun h => h))
          · refine g_iload hX dX7_leastCut_54 rfl ?_
            refine g_goto hX dX7_leastCut_56 ?_
            refine g_istore_n hX dX7_leastCut_60 rfl (Nat.le_of_ble_eq_true rfl) rfl ?_
            refine g_iinc hX dX7_leastCut_61 ic_1 rfl (Nat.le_of_ble_eq_true rfl) rfl ?_
            refine g_goto hX dX7_leastCut_64 ?_
            exact g_wk (lv0 := [some (.ref (ad Z 32 0)), some (.int a1), some (.int ((x16 + x22) + k45_0)), some (.int (s5_3 + 1)), none]) ⟨rfl, rfl, rfl, rfl, trivial⟩ (g_end (fun h => h))
    · rintro ⟨s5_2, s5_3⟩
      show G _ _ (J Z X 5 cm mm lm 67 [some (.ref (ad Z 32 0)), some (.int a1), some (.int s5_2), some (.int s5_3), none] [])
      refine g_iload_n hX dX7_leastCut_67 rfl rfl ?_
      exact g_iret hX (fun h => h) dX7_leastCut_68
  exact g r h hF

def f_X7_findCandidates_B7 (a1 : Int32) (s7_2 : Int32) (m7_ : MM) : Option ((Int32 × MM) ⊕ (Int32 × MM)) :=
  (rd 159 (m7_ 1) 157).bind fun x15 =>
  if x15 ≤ s7_2 then
    some (.inl (s7_2, m7_))
  else
    (rd 16 (m7_ 3) s7_2).bind fun x24 =>
    (f_X7_takesPart m7_ x24).bind fun x28 =>
    if x28 = 0 then
      some (.inr (s7_2 + 1, m7_))
    else
      (rd 16 (m7_ 8) x24).bind fun x39 =>
      if x39 = (-9) then
        (f_X7_isCandidate m7_ x24 a1).bind fun x48 =>
        if x48 = 0 then
          some (.inr (s7_2 + 1, m7_))
        else
          (wr 16 (m7_ 11) (m7_ 0 14) x24).bind fun g63 =>
          (wr 16 ((u2 m7_ 11 g63) 12) ((u2 m7_ 11 g63) 0 14) 0).bind fun g73 =>
          some (.inr (s7_2 + 1, u2 (u2 (u2 m7_ 11 g63) 12 g73) 0 (upd ((u2 (u2 m7_ 11 g63) 12 g73) 0) 14 (((u2 (u2 m7_ 11 g63) 12 g73) 0 14) + 1))))
      else
        some (.inr (s7_2 + 1, m7_))

def f_X7_findCandidates (mm : MM) (a1 : Int32) : Option (MM) :=
  (itr (fun s : Int32 × MM => f_X7_findCandidates_B7 a1 s.1 s.2) 2000 (0, u2 mm 0 (upd (mm 0) 14 0))).bind fun (s7_2, m7_) =>
  some m7_

abbrev rm_X7_findCandidates : Room := { frames := 2, cells := 0, slots := 0, locals := 44 }
set_option maxHeartbeats 2000000 in
set_option maxRecDepth 20000 in
theorem c_X7_findCandidates {Z : ZC} {cm : CM} {mm : MM} {lm : LM} {a1 : Int32} {r : MM}  (h : f_X7_findCandidates mm a1 = some r) : Ct Z yX7_findCandidates cX7_findCandidates 4 none rm_X7_findCandidates [.ref (ad Z 32 0), .int a1] cm mm lm none cm r lm := by
  refine Ct_of (own := RX7) [some (.ref (ad Z 32 0)), some (.int a1), none, none] ⟨by decide, rfl⟩ rfl (Nat.le_of_ble_eq_true rfl) rfl (fun X hX hF => ?_)
  have g : G (fun r : MM => Fx Z X none none cm r lm) (f_X7_findCandidates mm a1) (J Z X 4 cm mm lm 0 [some (.ref (ad Z 32 0)), some (.int a1), none, none] []) := by
    unfold f_X7_findCandidates
    refine g_aload_n hX dX7_findCandidates_0 rfl rfl ?_
    refine g_iconst hX dX7_findCandidates_1 ic_0 ?_
    refine g_putM hX fi_7_123 (s7_0 Z _) rfl (Nat.le_of_ble_eq_true rfl) rfl rfl dX7_findCandidates_2 ?_
    refine g_iconst hX dX7_findCandidates_5 ic_0 ?_
    refine g_istore_n hX dX7_findCandidates_6 rfl (Nat.le_of_ble_eq_true rfl) rfl ?_
    refine g_loop (Hd := fun s : Int32 × MM => J Z X 4 cm s.2 lm 7 [some (.ref (ad Z 32 0)), some (.int a1), some (.int s.1), none] []) (Ex := fun s : Int32 × MM => J Z X 4 cm s.2 lm 90 [some (.ref (ad Z 32 0)), some (.int a1), some (.int s.1), none] []) ?_ ?_
    · rintro ⟨s7_2, m7_⟩
      show G _ (f_X7_findCandidates_B7 a1 s7_2 m7_) (J Z X 4 cm m7_ lm 7 [some (.ref (ad Z 32 0)), some (.int a1), some (.int s7_2), none] [])
      unfold f_X7_findCandidates_B7
      refine g_iload_n hX dX7_findCandidates_7 rfl rfl ?_
      refine g_aload_n hX dX7_findCandidates_8 rfl rfl ?_
      refine g_get hX fi_7_7 p7_0 e7_0 rfl dX7_findCandidates_9 ?_
      refine g_sipush hX dX7_findCandidates_12 sp_157 ?_
      refine g_iald hX p7_1 e7_1 dX7_findCandidates_15 ?_
      intro x15 hx15
      refine g_icmp_ge hX dX7_findCandidates_16 (fun h16 => ?_) (fun h16 => ?_)
      · exact g_wk (lv0 := [some (.ref (ad Z 32 0)), some (.int a1), some (.int s7_2), none]) ⟨rfl, rfl, rfl, trivial⟩ (g_end (fun h => h))
      · refine g_aload_n hX dX7_findCandidates_19 rfl rfl ?_
        refine g_get hX fi_7_16 p7_0 e7_0 rfl dX7_findCandidates_20 ?_
        refine g_iload_n hX dX7_findCandidates_23 rfl rfl ?_
        refine g_iald hX p7_3 e7_3 dX7_findCandidates_24 ?_
        intro x24 hx24
        refine g_istore_n hX dX7_findCandidates_25 rfl (Nat.le_of_ble_eq_true rfl) rfl ?_
        refine g_aload_n hX dX7_findCandidates_26 rfl rfl ?_
        refine g_iload_n hX dX7_findCandidates_27 rfl rfl ?_
        refine g_callV hX (As := [.int x24]) (fun r => (some (.int r))) (fun _ => cm) (fun _ => m7_) (fun _ => lm) (fun r hr => c_X7_takesPart  hr) mi_X7_takesPart ml_7_126 p7_0 e7_0 rfl rfl rfl rfl rfl (Nat.le_of_ble_eq_true rfl) dX7_findCandidates_28 ?_
        intro x28 hx28
        refine g_if_eq hX dX7_findCandidates_31 (fun h31 => ?_) (fun h31 => ?_)
        · refine g_iinc hX dX7_findCandidates_84 ic_1 rfl (Nat.le_of_ble_eq_true rfl) rfl ?_
          refine g_goto hX dX7_findCandidates_87 ?_
          exact g_wk (lv0 := [some (.ref (ad Z 32 0)), some (.int a1), some (.int (s7_2 + 1)), none]) ⟨rfl, rfl, rfl, trivial⟩ (g_end (fun h => h))
        · refine g_aload_n hX dX7_findCandidates_34 rfl rfl ?_
          refine g_get hX fi_7_31 p7_0 e7_0 rfl dX7_findCandidates_35 ?_
          refine g_iload_n hX dX7_findCandidates_38 rfl rfl ?_
          refine g_iald hX p7_8 e7_8 dX7_findCandidates_39 ?_
          intro x39 hx39
          refine g_bipush hX dX7_findCandidates_40 bp_m9 ?_
          refine g_icmp_ne hX dX7_findCandidates_42 (fun h42 => ?_) (fun h42 => ?_)
          · refine g_aload_n hX dX7_findCandidates_45 rfl rfl ?_
            refine g_iload_n hX dX7_findCandidates_46 rfl rfl ?_
            refine g_iload_n hX dX7_findCandidates_47 rfl rfl ?_
            refine g_callV hX (As := [.int x24, .int a1]) (fun r => (some (.int r))) (fun _ => cm) (fun _ => m7_) (fun _ => lm) (fun r hr => c_X7_isCandidate  hr) mi_X7_isCandidate ml_7_129 p7_0 e7_0 rfl rfl rfl rfl rfl (Nat.le_of_ble_eq_true rfl) dX7_findCandidates_48 ?_
            intro x48 hx48
            refine g_if_eq hX dX7_findCandidates_51 (fun h51 => ?_) (fun h51 => ?_)
            · refine g_iinc hX dX7_findCandidates_84 ic_1 rfl (Nat.le_of_ble_eq_true rfl) rfl ?_
              refine g_goto hX dX7_findCandidates_87 ?_
              exact g_wk (lv0 := [some (.ref (ad Z 32 0)), some (.int a1), some (.int (s7_2 + 1)), none]) ⟨rfl, rfl, rfl, trivial⟩ (g_end (fun h => h))
            · refine g_aload_n hX dX7_findCandidates_54 rfl rfl ?_
              refine g_get hX fi_7_41 p7_0 e7_0 rfl dX7_findCandidates_55 ?_
              refine g_aload_n hX dX7_findCandidates_58 rfl rfl ?_
              refine g_get hX fi_7_123 p7_0 e7_0 rfl dX7_findCandidates_59 ?_
              refine g_iload_n hX dX7_findCandidates_62 rfl rfl ?_
              refine g_iastM hX p7_11 (s7_11 Z _) dX7_findCandidates_63 ?_
              intro g63 hg63
              refine g_aload_n hX dX7_findCandidates_64 rfl rfl ?_
              refine g_get hX fi_7_44 p7_0 e7_0 rfl dX7_findCandidates_65 ?_
              refine g_aload_n hX dX7_findCandidates_68 rfl rfl ?_
              refine g_get hX fi_7_123 p7_0 e7_0 rfl dX7_findCandidates_69 ?_
              refine g_iconst hX dX7_findCandidates_72 ic_0 ?_
              refine g_zastM hX p7_12 (s7_12 Z _) (by decide) dX7_findCandidates_73 ?_
              intro g73 hg73
              refine g_aload_n hX dX7_findCandidates_74 rfl rfl ?_
              refine g_dup hX dX7_findCandidates_75 rfl ?_
              refine g_get hX fi_7_123 p7_0 e7_0 rfl dX7_findCandidates_76 ?_
              refine g_iconst hX dX7_findCandidates_79 ic_1 ?_
              refine g_iadd hX dX7_findCandidates_80 ?_
              refine g_putM hX fi_7_123 (s7_0 Z _) rfl (Nat.le_of_ble_eq_true rfl) rfl rfl dX7_findCandidates_81 ?_
              refine g_iinc hX dX7_findCandidates_84 ic_1 rfl (Nat.le_of_ble_eq_true rfl) rfl ?_
              refine g_goto hX dX7_findCandidates_87 ?_
              exact g_wk (lv0 := [some (.ref (ad Z 32 0)), some (.int a1), some (.int (s7_2 + 1)), none]) ⟨rfl, rfl, rfl, trivial⟩ (g_end (fun h => h))
          · refine g_iinc hX dX7_findCandidates_84 ic_1 rfl (Nat.le_of_ble_eq_true rfl) rfl ?_
            refine g_goto hX dX7_findCandidates_87 ?_
            exact g_wk (lv0 := [some (.ref (ad Z 32 0)), some (.int a1), some (.int (s7_2 + 1)), none]) ⟨rfl, rfl, rfl, trivial⟩ (g_end (fun h => h))
    · rintro ⟨s7_2, m7_⟩
      show G _ _ (J Z X 4 cm m7_ lm 90 [some (.ref (ad Z 32 0)), some (.int a1), some (.int s7_2), none] [])
      exact g_vret hX (fun h => h) dX7_findCandidates_90
  exact g r h hF

def f_X7_findBehind_B30 (s2_1 : Int32) (s30_2 : Int32) (m30_ : MM) : Option ((Int32 × MM) ⊕ (Int32 × MM)) :=
  if s30_2 < 0 then
    some (.inl (s30_2, m30_))
  else
    (rd 16 (m30_ 11) s30_2).bind fun x40 =>
    (f_X7_of m30_ x40 3).bind fun x42 =>
    ((if (x42 &&& (s2_1 ^^^ (-1))) = 0 then
        some 0
      else
        some 1) : Option (Int32)).bind fun k57_0 =>
    (rd 272 (m30_ 15) (((16 * s30_2) + 16) + s2_1)).bind fun x81 =>
    if k57_0 = 0 then
      (wr 272 (m30_ 15) ((16 * s30_2) + s2_1) (x81 + 0)).bind fun g92 =>
      some (.inr (s30_2 + (-1), u2 m30_ 15 g92))
    else
      (wr 272 (m30_ 15) ((16 * s30_2) + s2_1) (x81 + 1)).bind fun g92 =>
      some (.inr (s30_2 + (-1), u2 m30_ 15 g92))

def f_X7_findBehind_B2 (s2_1 : Int32) (m2_ : MM) : Option ((Int32 × MM) ⊕ (Int32 × MM)) :=
  if 16 ≤ s2_1 then
    some (.inl (s2_1, m2_))
  else
    (wr 272 (m2_ 15) ((16 * (m2_ 0 14)) + s2_1) 0).bind fun g22 =>
    (itr (fun s : Int32 × MM => f_X7_findBehind_B30 s2_1 s.1 s.2) 2000 (((u2 m2_ 15 g22) 0 14) - 1, u2 m2_ 15 g22)).bind fun (s30_2, m30_) =>
    some (.inr (s2_1 + 1, m30_))

def f_X7_findBehind (mm : MM) : Option (MM) :=
  (itr (fun s : Int32 × MM => f_X7_findBehind_B2 s.1 s.2) 2000 (0, mm)).bind fun (s2_1, m2_) =>
  some m2_

abbrev rm_X7_findBehind : Room := { frames := 1, cells := 0, slots := 0, locals := 22 }
set_option maxHeartbeats 2000000 in
set_option maxRecDepth 20000 in
theorem c_X7_findBehind {Z : ZC} {cm : CM} {mm : MM} {lm : LM} {r : MM}  (h : f_X7_findBehind mm = some r) : Ct Z yX7_findBehind cX7_findBehind 4 none rm_X7_findBehind [.ref (ad Z 32 0)] cm mm lm none cm r lm := by
  refine Ct_of (own := RX7) [some (.ref (ad Z 32 0)), none, none, none] ⟨by decide, rfl⟩ rfl (Nat.le_of_ble_eq_true rfl) rfl (fun X hX hF => ?_)
  have g : G (fun r : MM => Fx Z X none none cm r lm) (f_X7_findBehind mm) (J Z X 4 cm mm lm 0 [some (.ref (ad Z 32 0)), none, none, none] []) := by
    unfold f_X7_findBehind
    refine g_iconst hX dX7_findBehind_0 ic_0 ?_
    refine g_istore_n hX dX7_findBehind_1 rfl (Nat.le_of_ble_eq_true rfl) rfl ?_
    refine g_loop (Hd := fun s : Int32 × MM => J Z X 4 cm s.2 lm 2 [some (.ref (ad Z 32 0)), some (.int s.1), none, none] []) (Ex := fun s : Int32 × MM => J Z X 4 cm s.2 lm 105 [some (.ref (ad Z 32 0)), some (.int s.1), none, none] []) ?_ ?_
    · rintro ⟨s2_1, m2_⟩
      show G _ (f_X7_findBehind_B2 s2_1 m2_) (J Z X 4 cm m2_ lm 2 [some (.ref (ad Z 32 0)), some (.int s2_1), none, none] [])
      unfold f_X7_findBehind_B2
      refine g_iload_n hX dX7_findBehind_2 rfl rfl ?_
      refine g_bipush hX dX7_findBehind_3 bp_16 ?_
      refine g_icmp_ge hX dX7_findBehind_5 (fun h5 => ?_) (fun h5 => ?_)
      · exact g_wk (lv0 := [some (.ref (ad Z 32 0)), some (.int s2_1), none, none]) ⟨rfl, rfl, trivial⟩ (g_end (fun h => h))
      · refine g_aload_n hX dX7_findBehind_8 rfl rfl ?_
        refine g_get hX fi_7_53 p7_0 e7_0 rfl dX7_findBehind_9 ?_
        refine g_bipush hX dX7_findBehind_12 bp_16 ?_
        refine g_aload_n hX dX7_findBehind_14 rfl rfl ?_
        refine g_get hX fi_7_123 p7_0 e7_0 rfl dX7_findBehind_15 ?_
        refine g_imul hX dX7_findBehind_18 ?_
        refine g_iload_n hX dX7_findBehind_19 rfl rfl ?_
        refine g_iadd hX dX7_findBehind_20 ?_
        refine g_iconst hX dX7_findBehind_21 ic_0 ?_
        refine g_iastM hX p7_15 (s7_15 Z _) dX7_findBehind_22 ?_
        intro g22 hg22
        refine g_aload_n hX dX7_findBehind_23 rfl rfl ?_
        refine g_get hX fi_7_123 p7_0 e7_0 rfl dX7_findBehind_24 ?_
        refine g_iconst hX dX7_findBehind_27 ic_1 ?_
        refine g_isub hX dX7_findBehind_28 ?_
        refine g_istore_n hX dX7_findBehind_29 rfl (Nat.le_of_ble_eq_true rfl) rfl ?_
        refine g_loop (Hd := fun s : Int32 × MM => J Z X 4 cm s.2 lm 30 [some (.ref (ad Z 32 0)), some (.int s2_1), some (.int s.1), none] []) (Ex := fun s : Int32 × MM => J Z X 4 cm s.2 lm 99 [some (.ref (ad Z 32 0)), some (.int s2_1), some (.int s.1), none] []) ?_ ?_
        · rintro ⟨s30_2, m30_⟩
          show G _ (f_X7_findBehind_B30 s2_1 s30_2 m30_) (J Z X 4 cm m30_ lm 30 [some (.ref (ad Z 32 0)), some (.int s2_1), some (.int s30_2), none] [])
          unfold f_X7_findBehind_B30
          refine g_iload_n hX dX7_findBehind_30 rfl rfl ?_
          refine g_if_lt hX dX7_findBehind_31 (fun h31 => ?_) (fun h31 => ?_)
          · exact g_wk (lv0 := [some (.ref (ad Z 32 0)), some (.int s2_1), some (.int s30_2), none]) ⟨rfl, rfl, rfl, trivial⟩ (g_end (fun h => h))
          · refine g_aload_n hX dX7_findBehind_34 rfl rfl ?_
            refine g_aload_n hX dX7_findBehind_35 rfl rfl ?_
            refine g_get hX fi_7_41 p7_0 e7_0 rfl dX7_findBehind_36 ?_
            refine g_iload_n hX dX7_findBehind_39 rfl rfl ?_
            refine g_iald hX p7_11 e7_11 dX7_findBehind_40 ?_
            intro x40 hx40
            refine g_iconst hX dX7_findBehind_41 ic_3 ?_
            refine g_callV hX (As := [.int x40, .int 3]) (fun r => (some (.int r))) (fun _ => cm) (fun _ => m30_) (fun _ => lm) (fun r hr => c_X7_of  hr) mi_X7_of ml_7_103 p7_0 e7_0 rfl rfl rfl rfl rfl (Nat.le_of_ble_eq_true rfl) dX7_findBehind_42 ?_
            intro x42 hx42
            refine g_iload_n hX dX7_findBehind_45 rfl rfl ?_
            refine g_iconst hX dX7_findBehind_46 ic_m1 ?_
            refine g_ixor hX dX7_findBehind_47 ?_
            refine g_iand hX dX7_findBehind_48 ?_
            refine g_bind (fun v : Int32 => J Z X 4 cm m30_ lm 57 [some (.ref (ad Z 32 0)), some (.int s2_1), some (.int s30_2), none] [.int v]) ?_ ?_
            · refine g_if_eq hX dX7_findBehind_49 (fun h49 => ?_) (fun h49 => ?_)
              · refine g_iconst hX dX7_findBehind_56 ic_0 ?_
                exact g_wk (lv0 := [some (.ref (ad Z 32 0)), some (.int s2_1), some (.int s30_2), none]) ⟨rfl, rfl, rfl, trivial⟩ (g_end (fun h => h))
              · refine g_iconst hX dX7_findBehind_52 ic_1 ?_
                refine g_goto hX dX7_findBehind_53 ?_
                exact g_wk (lv0 := [some (.ref (ad Z 32 0)), some (.int s2_1), some (.int s30_2), none]) ⟨rfl, rfl, rfl, trivial⟩ (g_end (fun h => h))
            · intro k57_0
              show G _ _ (J Z X 4 cm m30_ lm 57 [some (.ref (ad Z 32 0)), some (.int s2_1), some (.int s30_2), none] [.int k57_0])
              refine g_istore_n hX dX7_findBehind_57 rfl (Nat.le_of_ble_eq_true rfl) rfl ?_
              refine g_aload_n hX dX7_findBehind_58 rfl rfl ?_
              refine g_get hX fi_7_53 p7_0 e7_0 rfl dX7_findBehind_59 ?_
              refine g_bipush hX dX7_findBehind_62 bp_16 ?_
              refine g_iload_n hX dX7_findBehind_64 rfl rfl ?_
              refine g_imul hX dX7_findBehind_65 ?_
              refine g_iload_n hX dX7_findBehind_66 rfl rfl ?_
              refine g_iadd hX dX7_findBehind_67 ?_
              refine g_aload_n hX dX7_findBehind_68 rfl rfl ?_
              refine g_get hX fi_7_53 p7_0 e7_0 rfl dX7_findBehind_69 ?_
              refine g_bipush hX dX7_findBehind_72 bp_16 ?_
              refine g_iload_n hX dX7_findBehind_74 rfl rfl ?_
              refine g_imul hX dX7_findBehind_75 ?_
              refine g_bipush hX dX7_findBehind_76 bp_16 ?_
              refine g_iadd hX dX7_findBehind_78 ?_
              refine g_iload_n hX dX7_findBehind_79 rfl rfl ?_
              refine g_iadd hX dX7_findBehind_80 ?_
              refine g_iald hX p7_15 e7_15 dX7_findBehind_81 ?_
              intro x81 hx81
              refine g_iload_n hX dX7_findBehind_82 rfl rfl ?_
              refine g_if_eq hX dX7_findBehind_83 (fun h83 => ?_) (fun h83 => ?_)
              · refine g_iconst hX dX7_findBehind_90 ic_0 ?_
                refine g_iadd hX dX7_findBehind_91 ?_
                refine g_iastM hX p7_15 (s7_15 Z _) dX7_findBehind_92 ?_
                intro g92 hg92
                refine g_iinc hX dX7_findBehind_93 ic_m1 rfl (Nat.le_of_ble_eq_true rfl) rfl ?_
                refine g_goto hX dX7_findBehind_96 ?_
                exact g_wk (lv0 := [some (.ref (ad Z 32 0)), some (.int s2_1), some (.int (s30_2 + (-1))), none]) ⟨rfl, rfl, rfl, trivial⟩ (g_end (fun h => h))
              · refine g_iconst hX dX7_findBehind_86 ic_1 ?_
                refine g_goto hX dX7_findBehind_87 ?_
                refine g_iadd hX dX7_findBehind_91 ?_
                refine g_iastM hX p7_15 (s7_15 Z _) dX7_findBehind_92 ?_
                intro g92 hg92
                refine g_iinc hX dX7_findBehind_93 ic_m1 rfl (Nat.le_of_ble_eq_true rfl) rfl ?_
                refine g_goto hX dX7_findBehind_96 ?_
                exact g_wk (lv0 := [some (.ref (ad Z 32 0)), some (.int s2_1), some (.int (s30_2 + (-1))), none]) ⟨rfl, rfl, rfl, trivial⟩ (g_end (fun h => h))
        · rintro ⟨s30_2, m30_⟩
          show G _ _ (J Z X 4 cm m30_ lm 99 [some (.ref (ad Z 32 0)), some (.int s2_1), some (.int s30_2), none] [])
          refine g_iinc hX dX7_findBehind_99 ic_1 rfl (Nat.le_of_ble_eq_true rfl) rfl ?_
          refine g_goto hX dX7_findBehind_102 ?_
          exact g_wk (lv0 := [some (.ref (ad Z 32 0)), some (.int (s2_1 + 1)), none, none]) ⟨rfl, rfl, trivial⟩ (g_end (fun h => h))
    · rintro ⟨s2_1, m2_⟩
      show G _ _ (J Z X 4 cm m2_ lm 105 [some (.ref (ad Z 32 0)), some (.int s2_1), none, none] [])
      exact g_vret hX (fun h => h) dX7_findBehind_105
  exact g r h hF

def f_X7_takeFilling_B40 (k33_0 : Int32) (s40_4 : Int32) (s40_5 : Int32) (m40_ : MM) : Option ((Int32 × Int32 × MM) ⊕ (Int32 × Int32 × MM)) :=
  if (m40_ 0 14) ≤ s40_5 then
    some (.inl (s40_4, s40_5, m40_))
  else
    if s40_4 ≤ 0 then
      some (.inl (s40_4, s40_5, m40_))
    else
      (rd 16 (m40_ 11) s40_5).bind fun x61 =>
      (f_X7_addOther m40_ x61 1).bind fun r63 =>
      (f_X7_leastCut r63 (-9)).bind fun x69 =>
      ((if ((x69 + s40_4) - 1) < k33_0 then
          some 0
        else
          (f_X7_leastCut r63 (s40_5 + 1)).bind fun x86 =>
          if x86 < k33_0 then
            some 0
          else
            some 1) : Option (Int32)).bind fun k98_0 =>
      if k98_0 = 0 then
        (rd 16 (r63 11) s40_5).bind fun x142 =>
        (f_X7_addOther r63 x142 (-1)).bind fun r144 =>
        some (.inr (s40_4, s40_5 + 1, r144))
      else
        if (((r63 0 14) - s40_5) - 1) < (s40_4 - 1) then
          (rd 16 (r63 11) s40_5).bind fun x142 =>
          (f_X7_addOther r63 x142 (-1)).bind fun r144 =>
          some (.inr (s40_4, s40_5 + 1, r144))
        else
          (wr 16 (r63 12) s40_5 1).bind fun g128 =>
          some (.inr (s40_4 + (-1), s40_5 + 1, u2 r63 12 g128))

def f_X7_takeFilling (mm : MM) (a1 a2 : Int32) : Option (MM) :=
  (f_X7_leaveAll mm a1).bind fun r2 =>
  (f_X7_sumHave r2).bind fun r6 =>
  (f_X7_noOthers r6).bind fun r10 =>
  (f_X7_findBehind r10).bind fun r14 =>
  (f_X7_leastCut r14 0).bind fun x19 =>
  ((if a2 ≤ x19 then
      some a2
    else
      some x19) : Option (Int32)).bind fun k33_0 =>
  (itr (fun s : Int32 × Int32 × MM => f_X7_takeFilling_B40 k33_0 s.1 s.2.1 s.2.2) 2000 (a2, 0, r14)).bind fun (s40_4, s40_5, m40_) =>
  some m40_

abbrev rm_X7_takeFilling : Room := { frames := 2, cells := 0, slots := 0, locals := 45 }
set_option maxHeartbeats 2000000 in
set_option maxRecDepth 20000 in
theorem c_X7_takeFilling {Z : ZC} {cm : CM} {mm : MM} {lm : LM} {a1 a2 : Int32} {r : MM}  (h : f_X7_takeFilling mm a1 a2 = some r) : Ct Z yX7_takeFilling cX7_takeFilling 7 none rm_X7_takeFilling [.ref (ad Z 32 0), .int a1, .int a2] cm mm lm none cm r lm := by
  refine Ct_of (own := RX7) [some (.ref (ad Z 32 0)), some (.int a1), some (.int a2), none, none, none, none] ⟨by decide, rfl⟩ rfl (Nat.le_of_ble_eq_true rfl) rfl (fun X hX hF => ?_)
  have g : G (fun r : MM => Fx Z X none none cm r lm) (f_X7_takeFilling mm a1 a2) (J Z X 7 cm mm lm 0 [some (.ref (ad Z 32 0)), some (.int a1), some (.int a2), none, none, none, none] []) := by
    unfold f_X7_takeFilling
    refine g_aload_n hX dX7_takeFilling_0 rfl rfl ?_
    refine g_iload_n hX dX7_takeFilling_1 rfl rfl ?_
    refine g_callV hX (As := [.int a1]) (fun _ => none) (fun _ => cm) (fun r => r) (fun _ => lm) (fun r hr => c_X7_leaveAll  hr) mi_X7_leaveAll ml_7_132 p7_0 e7_0 rfl rfl rfl rfl rfl (Nat.le_of_ble_eq_true rfl) dX7_takeFilling_2 ?_
    intro r2 hr2
    refine g_aload_n hX dX7_takeFilling_5 rfl rfl ?_
    refine g_callV hX (As := []) (fun _ => none) (fun _ => cm) (fun r => r) (fun _ => lm) (fun r hr => c_X7_sumHave  hr) mi_X7_sumHave ml_7_135 p7_0 e7_0 rfl rfl rfl rfl rfl (Nat.le_of_ble_eq_true rfl) dX7_takeFilling_6 ?_
    intro r6 hr6
    refine g_aload_n hX dX7_takeFilling_9 rfl rfl ?_
    refine g_callV hX (As := []) (fun _ => none) (fun _ => cm) (fun r => r) (fun _ => lm) (fun r hr => c_X7_noOthers  hr) mi_X7_noOthers ml_7_138 p7_0 e7_0 rfl rfl rfl rfl rfl (Nat.le_of_ble_eq_true rfl) dX7_takeFilling_10 ?_
    intro r10 hr10
    refine g_aload_n hX dX7_takeFilling_13 rfl rfl ?_
    refine g_callV hX (As := []) (fun _ => none) (fun _ => cm) (fun r => r) (fun _ => lm) (fun r hr => c_X7_findBehind  hr) mi_X7_findBehind ml_7_141 p7_0 e7_0 rfl rfl rfl rfl rfl (Nat.le_of_ble_eq_true rfl) dX7_takeFilling_14 ?_
    intro r14 hr14
    refine g_aload_n hX dX7_takeFilling_17 rfl rfl ?_
    refine g_iconst hX dX7_takeFilling_18 ic_0 ?_
    refine g_callV hX (As := [.int 0]) (fun r => (some (.int r))) (fun _ => cm) (fun _ => r14) (fun _ => lm) (fun r hr => c_X7_leastCut  hr) mi_X7_leastCut ml_7_144 p7_0 e7_0 rfl rfl rfl rfl rfl (Nat.le_of_ble_eq_true rfl) dX7_takeFilling_19 ?_
    intro x19 hx19
    refine g_istore_n hX dX7_takeFilling_22 rfl (Nat.le_of_ble_eq_true rfl) rfl ?_
    refine g_iload_n hX dX7_takeFilling_23 rfl rfl ?_
    refine g_iload_n hX dX7_takeFilling_24 rfl rfl ?_
    refine g_bind (fun v : Int32 => J Z X 7 cm r14 lm 33 [some (.ref (ad Z 32 0)), some (.int a1), some (.int a2), some (.int x19), none, none, none] [.int v]) ?_ ?_
    · refine g_icmp_ge hX dX7_takeFilling_25 (fun h25 => ?_) (fun h25 => ?_)
      · refine g_iload_n hX dX7_takeFilling_32 rfl rfl ?_
        exact g_wk (lv0 := [some (.ref (ad Z 32 0)), some (.int a1), some (.int a2), some (.int x19), none, none, none]) ⟨rfl, rfl, rfl, rfl, trivial⟩ (g_end (fun h => h))
      · refine g_iload_n hX dX7_takeFilling_28 rfl rfl ?_
        refine g_goto hX dX7_takeFilling_29 ?_
        exact g_wk (lv0 := [some (.ref (ad Z 32 0)), some (.int a1), some (.int a2), some (.int x19), none, none, none]) ⟨rfl, rfl, rfl, rfl, trivial⟩ (g_end (fun h => h))
    · intro k33_0
      show G _ _ (J Z X 7 cm r14 lm 33 [some (.ref (ad Z 32 0)), some (.int a1), some (.int a2), some (.int x19), none, none, none] [.int k33_0])
      refine g_istore_n hX dX7_takeFilling_33 rfl (Nat.le_of_ble_eq_true rfl) rfl ?_
      refine g_iload_n hX dX7_takeFilling_34 rfl rfl ?_
      refine g_istore hX dX7_takeFilling_35 (Nat.le_of_ble_eq_true rfl) rfl ?_
      refine g_iconst hX dX7_takeFilling_37 ic_0 ?_
      refine g_istore hX dX7_takeFilling_38 (Nat.le_of_ble_eq_true rfl) rfl ?_
      refine g_loop (Hd := fun s : Int32 × Int32 × MM => J Z X 7 cm s.2.2 lm 40 [some (.ref (ad Z 32 0)), some (.int a1), some (.int a2), some (.int k33_0), some (.int s.1), some (.int s.2.1), none] []) (Ex := fun s : Int32 × Int32 × MM => J Z X 7 cm s.2.2 lm 153 [some (.ref (ad Z 32 0)), some (.int a1), some (.int a2), some (.int k33_0), some (.int s.1), some (.int s.2.1), none] []) ?_ ?_
      · rintro ⟨s40_4, s40_5, m40_⟩
        show G _ (f_X7_takeFilling_B40 k33_0 s40_4 s40_5 m40_) (J Z X 7 cm m40_ lm 40 [some (.ref (ad Z 32 0)), some (.int a1), some (.int a2), some (.int k33_0), some (.int s40_4), some (.int s40_5), none] [])
        unfold f_X7_takeFilling_B40
        refine g_iload hX dX7_takeFilling_40 rfl ?_
        refine g_aload_n hX dX7_takeFilling_42 rfl rfl ?_
        refine g_get hX fi_7_123 p7_0 e7_0 rfl dX7_takeFilling_43 ?_
        refine g_icmp_ge hX dX7_takeFilling_46 (fun h46 => ?_) (fun h46 => ?_)
        · exact g_wk (lv0 := [some (.ref (ad Z 32 0)), some (.int a1), some (.int a2), some (.int k33_0), some (.int s40_4), some (.int s40_5), none]) ⟨rfl, rfl, rfl, rfl, rfl, rfl, trivial⟩ (g_end (fun h => h))
        · refine g_iload hX dX7_takeFilling_49 rfl ?_
          refine g_if_le hX dX7_takeFilling_51 (fun h51 => ?_) (fun h51 => ?_)
          · exact g_wk (lv0 := [some (.ref (ad Z 32 0)), some (.int a1), some (.int a2), some (.int k33_0), some (.int s40_4), some (.int s40_5), none]) ⟨rfl, rfl, rfl, rfl, rfl, rfl, trivial⟩ (g_end (fun h => h))
          · refine g_aload_n hX dX7_takeFilling_54 rfl rfl ?_
            refine g_aload_n hX dX7_takeFilling_55 rfl rfl ?_
            refine g_get hX fi_7_41 p7_0 e7_0 rfl dX7_takeFilling_56 ?_
            refine g_iload hX dX7_takeFilling_59 rfl ?_
            refine g_iald hX p7_11 e7_11 dX7_takeFilling_61 ?_
            intro x61 hx61
            refine g_iconst hX dX7_takeFilling_62 ic_1 ?_
            refine g_callV hX (As := [.int x61, .int 1]) (fun _ => none) (fun _ => cm) (fun r => r) (fun _ => lm) (fun r hr => c_X7_addOther  hr) mi_X7_addOther ml_7_147 p7_0 e7_0 rfl rfl rfl rfl rfl (Nat.le_of_ble_eq_true rfl) dX7_takeFilling_63 ?_
            intro r63 hr63
            refine g_aload_n hX dX7_takeFilling_66 rfl rfl ?_
            refine g_bipush hX dX7_takeFilling_67 bp_m9 ?_
            refine g_callV hX (As := [.int (-9)]) (fun r => (some (.int r))) (fun _ => cm) (fun _ => r63) (fun _ => lm) (fun r hr => c_X7_leastCut  hr) mi_X7_leastCut ml_7_144 p7_0 e7_0 rfl rfl rfl rfl rfl (Nat.le_of_ble_eq_true rfl) dX7_takeFilling_69 ?_
            intro x69 hx69
            refine g_iload hX dX7_takeFilling_72 rfl ?_
            refine g_iadd hX dX7_takeFilling_74 ?_
            refine g_iconst hX dX7_takeFilling_75 ic_1 ?_
            refine g_isub hX dX7_takeFilling_76 ?_
            refine g_iload_n hX dX7_takeFilling_77 rfl rfl ?_
            refine g_bind (fun v : Int32 => J Z X 7 cm r63 lm 98 [some (.ref (ad Z 32 0)), some (.int a1), some (.int a2), some (.int k33_0), some (.int s40_4), some (.int s40_5), none] [.int v]) ?_ ?_
            · refine g_icmp_lt hX dX7_takeFilling_78 (fun h78 => ?_) (fun h78 => ?_)
              · refine g_iconst hX dX7_takeFilling_97 ic_0 ?_
                exact g_wk (lv0 := [some (.ref (ad Z 32 0)), some (.int a1), some (.int a2), some (.int k33_0), some (.int s40_4), some (.int s40_5), none]) ⟨rfl, rfl, rfl, rfl, rfl, rfl, trivial⟩ (g_end (fun h => h))
              · refine g_aload_n hX dX7_takeFilling_81 rfl rfl ?_
                refine g_iload hX dX7_takeFilling_82 rfl ?_
                refine g_iconst hX dX7_takeFilling_84 ic_1 ?_
                refine g_iadd hX dX7_takeFilling_85 ?_
                refine g_callV hX (As := [.int (s40_5 + 1)]) (fun r => (some (.int r))) (fun _ => cm) (fun _ => r63) (fun _ => lm) (fun r hr => c_X7_leastCut  hr) mi_X7_leastCut ml_7_144 p7_0 e7_0 rfl rfl rfl rfl rfl (Nat.le_of_ble_eq_true rfl) dX7_takeFilling_86 ?_
                intro x86 hx86
                refine g_iload_n hX dX7_takeFilling_89 rfl rfl ?_
                refine g_icmp_lt hX dX7_takeFilling_90 (fun h90 => ?_) (fun h90 => ?_)
                · refine g_iconst hX dX7_takeFilling_97 ic_0 ?_
                  exact g_wk (lv0 := [some (.ref (ad Z 32 0)), some (.int a1), some (.int a2), some (.int k33_0), some (.int s40_4), some (.int s40_5), none]) ⟨rfl, rfl, rfl, rfl, rfl, rfl, trivial⟩ (g_end (fun h => h))
                · refine g_iconst hX dX7_takeFilling_93 ic_1 ?_
                  refine g_goto hX dX7_takeFilling_94 ?_
                  exact g_wk (lv0 := [some (.ref (ad Z 32 0)), some (.int a1), some (.int a2), some (.int k33_0), some (.int s40_4), some (.int s40_5), none]) ⟨rfl, rfl, rfl, rfl, rfl, rfl, trivial⟩ (g_end (fun h => h))
            · intro k98_0
              show G _ _ (J Z X 7 cm r63 lm 98 [some (.ref (ad Z 32 0)), some (.int a1), some (.int a2), some (.int k33_0), some (.int s40_4), some (.int s40_5), none] [.int k98_0])
              refine g_istore hX dX7_takeFilling_98 (Nat.le_of_ble_eq_true rfl) rfl ?_
              refine g_iload hX dX7_takeFilling_100 rfl ?_
              refine g_if_eq hX dX7_takeFilling_102 (fun h102 => ?_) (fun h102 => ?_)
              · refine g_aload_n hX dX7_takeFilling_135 rfl rfl ?_
                refine g_aload_n hX dX7_takeFilling_136 rfl rfl ?_
                refine g_get hX fi_7_41 p7_0 e7_0 rfl dX7_takeFilling_137 ?_
                refine g_iload hX dX7_takeFilling_140 rfl ?_
                refine g_iald hX p7_11 e7_11 dX7_takeFilling_142 ?_
                intro x142 hx142
                refine g_iconst hX dX7_takeFilling_143 ic_m1 ?_
                refine g_callV hX (As := [.int x142, .int (-1)]) (fun _ => none) (fun _ => cm) (fun r => r) (fun _ => lm) (fun r hr => c_X7_addOther  hr) mi_X7_addOther ml_7_147 p7_0 e7_0 rfl rfl rfl rfl rfl (Nat.le_of_ble_eq_true rfl) dX7_takeFilling_144 ?_
                intro r144 hr144
                refine g_iinc hX dX7_takeFilling_147 ic_1 rfl (Nat.le_of_ble_eq_true rfl) rfl ?_
                refine g_goto hX dX7_takeFilling_150 ?_
                exact g_wk (lv0 := [some (.ref (ad Z 32 0)), some (.int a1), some (.int a2), some (.int k33_0), some (.int s40_4), some (.int (s40_5 + 1)), none]) ⟨rfl, rfl, rfl, rfl, rfl, rfl, trivial⟩ (g_end (fun h => h))
              · refine g_aload_n hX dX7_takeFilling_105 rfl rfl ?_
                refine g_get hX fi_7_123 p7_0 e7_0 rfl dX7_takeFilling_106 ?_
                refine g_iload hX dX7_takeFilling_109 rfl ?_
                refine g_isub hX dX7_takeFilling_111 ?_
                refine g_iconst hX dX7_takeFilling_112 ic_1 ?_
                refine g_isub hX dX7_takeFilling_113 ?_
                refine g_iload hX dX7_takeFilling_114 rfl ?_
                refine g_iconst hX dX7_takeFilling_116 ic_1 ?_
                refine g_isub hX dX7_takeFilling_117 ?_
                refine g_icmp_lt hX dX7_takeFilling_118 (fun h118 => ?_) (fun h118 => ?_)
                · refine g_aload_n hX dX7_takeFilling_135 rfl rfl ?_
                  refine g_aload_n hX dX7_takeFilling_136 rfl rfl ?_
                  refine g_get hX fi_7_41 p7_0 e7_0 rfl dX7_takeFilling_137 ?_
                  refine g_iload hX dX7_takeFilling_140 rfl ?_
                  refine g_iald hX p7_11 e7_11 dX7_takeFilling_142 ?_
                  intro x142 hx142
                  refine g_iconst hX dX7_takeFilling_143 ic_m1 ?_
                  refine g_callV hX (As := [.int x142, .int (-1)]) (fun _ => none) (fun _ => cm) (fun r => r) (fun _ => lm) (fun r hr => c_X7_addOther  hr) mi_X7_addOther ml_7_147 p7_0 e7_0 rfl rfl rfl rfl rfl (Nat.le_of_ble_eq_true rfl) dX7_takeFilling_144 ?_
                  intro r144 hr144
                  refine g_iinc hX dX7_takeFilling_147 ic_1 rfl (Nat.le_of_ble_eq_true rfl) rfl ?_
                  refine g_goto hX dX7_takeFilling_150 ?_
                  exact g_wk (lv0 := [some (.ref (ad Z 32 0)), some (.int a1), some (.int a2), some (.int k33_0), some (.int s40_4), some (.int (s40_5 + 1)), none]) ⟨rfl, rfl, rfl, rfl, rfl, rfl, trivial⟩ (g_end (fun h => h))
                · refine g_aload_n hX dX7_takeFilling_121 rfl rfl ?_
                  refine g_get hX fi_7_44 p7_0 e7_0 rfl dX7_takeFilling_122 ?_
                  refine g_iload hX dX7_takeFilling_125 rfl ?_
                  refine g_iconst hX dX7_takeFilling_127 ic_1 ?_
                  refine g_zastM hX p7_12 (s7_12 Z _) (by decide) dX7_takeFilling_128 ?_
                  intro g128 hg128
                  refine g_iinc hX dX7_takeFilling_129 ic_m1 rfl (Nat.le_of_ble_eq_true rfl) rfl ?_
                  refine g_goto hX dX7_takeFilling_132 ?_
                  refine g_iinc hX dX7_takeFilling_147 ic_1 rfl (Nat.le_of_ble_eq_true rfl) rfl ?_
                  refine g_goto hX dX7_takeFilling_150 ?_
                  exact g_wk (lv0 := [some (.ref (ad Z 32 0)), some (.int a1), some (.int a2), some (.int k33_0), some (.int (s40_4 + (-1))), some (.int (s40_5 + 1)), none]) ⟨rfl, rfl, rfl, rfl, rfl, rfl, trivial⟩ (g_end (fun h => h))
      · rintro ⟨s40_4, s40_5, m40_⟩
        show G _ _ (J Z X 7 cm m40_ lm 153 [some (.ref (ad Z 32 0)), some (.int a1), some (.int a2), some (.int k33_0), some (.int s40_4), some (.int s40_5), none] [])
        exact g_vret hX (fun h => h) dX7_takeFilling_153
  exact g r h hF

def f_X7_takeBest_B4 (s4_2 : Int32) (s4_3 : Int32) (m4_ : MM) : Option ((Int32 × Int32 × MM) ⊕ (Int32 × Int32 × MM)) :=
  if (m4_ 0 14) ≤ s4_3 then
    some (.inl (s4_2, s4_3, m4_))
  else
    if s4_2 ≤ 0 then
      some (.inl (s4_2, s4_3, m4_))
    else
      (rd 16 (m4_ 12) s4_3).bind fun x21 =>
      if x21 = 0 then
        (wr 16 (m4_ 12) s4_3 1).bind fun g31 =>
        some (.inr (s4_2 + (-1), s4_3 + 1, u2 m4_ 12 g31))
      else
        some (.inr (s4_2, s4_3 + 1, m4_))

def f_X7_takeBest (mm : MM) (a1 : Int32) : Option (MM) :=
  (itr (fun s : Int32 × Int32 × MM => f_X7_takeBest_B4 s.1 s.2.1 s.2.2) 2000 (a1, 0, mm)).bind fun (s4_2, s4_3, m4_) =>
  some m4_

abbrev rm_X7_takeBest : Room := { frames := 0, cells := 0, slots := 0, locals := 0 }
set_option maxHeartbeats 2000000 in
set_option maxRecDepth 20000 in
theorem c_X7_takeBest {Z : ZC} {cm : CM} {mm : MM} {lm : LM} {a1 : Int32} {r : MM}  (h : f_X7_takeBest mm a1 = some r) : Ct Z yX7_takeBest cX7_takeBest 4 none rm_X7_takeBest [.ref (ad Z 32 0), .int a1] cm mm lm none cm r lm := by
  refine Ct_of (own := RX7) [some (.ref (ad Z 32 0)), some (.int a1), none, none] ⟨by decide, rfl⟩ rfl (Nat.le_of_ble_eq_true rfl) rfl (fun X hX hF => ?_)
  have g : G (fun r : MM => Fx Z X none none cm r lm) (f_X7_takeBest mm a1) (J Z X 4 cm mm lm 0 [some (.ref (ad Z 32 0)), some (.int a1), none, none] []) := by
    unfold f_X7_takeBest
    refine g_iload_n hX dX7_takeBest_0 rfl rfl ?_
    refine g_istore_n hX dX7_takeBest_1 rfl (Nat.le_of_ble_eq_true rfl) rfl ?_
    refine g_iconst hX dX7_takeBest_2 ic_0 ?_
    refine g_istore_n hX dX7_takeBest_3 rfl (Nat.le_of_ble_eq_true rfl) rfl ?_
    refine g_loop (Hd := fun s : Int32 × Int32 × MM => J Z X 4 cm s.2.2 lm 4 [some (.ref (ad Z 32 0)), some (.int a1), some (.int s.1), some (.int s.2.1)] []) (Ex := fun s : Int32 × Int32 × MM => J Z X 4 cm s.2.2 lm 41 [some (.ref (ad Z 32 0)), some (.int a1), some (.int s.1), some (.int s.2.1)] []) ?_ ?_
    · rintro ⟨s4_2, s4_3, m4_⟩
      show G _ (f_X7_takeBest_B4 s4_2 s4_3 m4_) (J Z X 4 cm m4_ lm 4 [some (.ref (ad Z 32 0)), some (.int a1), some (.int s4_2), some (.int s4_3)] [])
      unfold f_X7_takeBest_B4
      refine g_iload_n hX dX7_takeBest_4 rfl rfl ?_
      refine g_aload_n hX dX7_takeBest_5 rfl rfl ?_
      refine g_get hX fi_7_123 p7_0 e7_0 rfl dX7_takeBest_6 ?_
      refine g_icmp_ge hX dX7_takeBest_9 (fun h9 => ?_) (fun h9 => ?_)
      · exact g_wk (lv0 := [some (.ref (ad Z 32 0)), some (.int a1), some (.int s4_2), some (.int s4_3)]) ⟨rfl, rfl, rfl, rfl, trivial⟩ (g_end (fun h => h))
      · refine g_iload_n hX dX7_takeBest_12 rfl rfl ?_
        refine g_if_le hX dX7_takeBest_13 (fun h13 => ?_) (fun h13 => ?_)
        · exact g_wk (lv0 := [some (.ref (ad Z 32 0)), some (.int a1), some (.int s4_2), some (.int s4_3)]) ⟨rfl, rfl, rfl, rfl, trivial⟩ (g_end (fun h => h))
        · refine g_aload_n hX dX7_takeBest_16 rfl rfl ?_
          refine g_get hX fi_7_44 p7_0 e7_0 rfl dX7_takeBest_17 ?_
          refine g_iload_n hX dX7_takeBest_20 rfl rfl ?_
          refine g_zald hX p7_12 e7_12 dX7_takeBest_21 ?_
          intro x21 hx21
          refine g_if_ne hX dX7_takeBest_22 (fun h22 => ?_) (fun h22 => ?_)
          · refine g_aload_n hX dX7_takeBest_25 rfl rfl ?_
            refine g_get hX fi_7_44 p7_0 e7_0 rfl dX7_takeBest_26 ?_
            refine g_iload_n hX dX7_takeBest_29 rfl rfl ?_
            refine g_iconst hX dX7_takeBest_30 ic_1 ?_
            refine g_zastM hX p7_12 (s7_12 Z _) (by decide) dX7_takeBest_31 ?_
            intro g31 hg31
            refine g_iinc hX dX7_takeBest_32 ic_m1 rfl (Nat.le_of_ble_eq_true rfl) rfl ?_
            refine g_iinc hX dX7_takeBest_35 ic_1 rfl (Nat.le_of_ble_eq_true rfl) rfl ?_
            refine g_goto hX dX7_takeBest_38 ?_
            exact g_wk (lv0 := [some (.ref (ad Z 32 0)), some (.int a1), some (.int (s4_2 + (-1))), some (.int (s4_3 + 1))]) ⟨rfl, rfl, rfl, rfl, trivial⟩ (g_end (fun h => h))
          · refine g_iinc hX dX7_takeBest_35 ic_1 rfl (Nat.le_of_ble_eq_true rfl) rfl ?_
            refine g_goto hX dX7_takeBest_38 ?_
            exact g_wk (lv0 := [some (.ref (ad Z 32 0)), some (.int a1), some (.int s4_2), some (.int (s4_3 + 1))]) ⟨rfl, rfl, rfl, rfl, trivial⟩ (g_end (fun h => h))
    · rintro ⟨s4_2, s4_3, m4_⟩
      show G _ _ (J Z X 4 cm m4_ lm 41 [some (.ref (ad Z 32 0)), some (.int a1), some (.int s4_2), some (.int s4_3)] [])
      exact g_vret hX (fun h => h) dX7_takeBest_41
  exact g r h hF

def f_X7_takeByGroups_B27 (s5_4 : Int32) (s27_3 : Int32) (s27_5 : Int32) (s27_6 : Int32) (m27_ : MM) : Option ((Int32 × Int32 × Int32 × MM) ⊕ (Int32 × Int32 × Int32 × MM)) :=
  if (m27_ 0 14) ≤ s27_6 then
    some (.inl (s27_3, s27_5, s27_6, m27_))
  else
    if s27_3 ≤ 0 then
      some (.inl (s27_3, s27_5, s27_6, m27_))
    else
      if s27_5 ≤ 0 then
        some (.inl (s27_3, s27_5, s27_6, m27_))
      else
        (rd 16 (m27_ 12) s27_6).bind fun x51 =>
        if x51 = 0 then
          (rd 16 (m27_ 11) s27_6).bind fun x62 =>
          (f_X7_of m27_ x62 3).bind fun x64 =>
          (f_X7_isIn x64 s5_4).bind fun x69 =>
          if x69 = 1 then
            (wr 16 (m27_ 12) s27_6 1).bind fun g83 =>
            (rd 16 ((u2 m27_ 12 g83) 11) s27_6).bind fun x94 =>
            (wr 16 ((u2 m27_ 12 g83) 9) x94 s5_4).bind fun g97 =>
            some (.inr (s27_3 + (-1), s27_5 + (-1), s27_6 + 1, u2 (u2 m27_ 12 g83) 9 g97))
          else
            some (.inr (s27_3, s27_5, s27_6 + 1, m27_))
        else
          some (.inr (s27_3, s27_5, s27_6 + 1, m27_))

def f_X7_takeByGroups_B5 (a1 : Int32) (s5_3 : Int32) (s5_4 : Int32) (m5_ : MM) : Option ((Int32 × Int32 × MM) ⊕ (Int32 × Int32 × MM)) :=
  if 4 ≤ s5_4 then
    some (.inl (s5_3, s5_4, m5_))
  else
    (rd 16 (m5_ 5) ((4 * a1) + s5_4)).bind fun x21 =>
    (itr (fun s : Int32 × Int32 × Int32 × MM => f_X7_takeByGroups_B27 s5_4 s.1 s.2.1 s.2.2.1 s.2.2.2) 2000 (s5_3, x21, 0, m5_)).bind fun (s27_3, s27_5, s27_6, m27_) =>
    some (.inr (s27_3, s5_4 + 1, m27_))

def f_X7_takeByGroups (mm : MM) (a1 a2 : Int32) : Option (MM) :=
  (itr (fun s : Int32 × Int32 × MM => f_X7_takeByGroups_B5 a1 s.1 s.2.1 s.2.2) 2000 (a2, 0, mm)).bind fun (s5_3, s5_4, m5_) =>
  (f_X7_takeBest m5_ s5_3).bind fun r118 =>
  some r118

abbrev rm_X7_takeByGroups : Room := { frames := 1, cells := 0, slots := 0, locals := 23 }
set_option maxHeartbeats 2000000 in
set_option maxRecDepth 20000 in
theorem c_X7_takeByGroups {Z : ZC} {cm : CM} {mm : MM} {lm : LM} {a1 a2 : Int32} {r : MM}  (h : f_X7_takeByGroups mm a1 a2 = some r) : Ct Z yX7_takeByGroups cX7_takeByGroups 7 none rm_X7_takeByGroups [.ref (ad Z 32 0), .int a1, .int a2] cm mm lm none cm r lm := by
  refine Ct_of (own := RX7) [some (.ref (ad Z 32 0)), some (.int a1), some (.int a2), none, none, none, none] ⟨by decide, rfl⟩ rfl (Nat.le_of_ble_eq_true rfl) rfl (fun X hX hF => ?_)
  have g : G (fun r : MM => Fx Z X none none cm r lm) (f_X7_takeByGroups mm a1 a2) (J Z X 7 cm mm lm 0 [some (.ref (ad Z 32 0)), some (.int a1), some (.int a2), none, none, none, none] []) := by
    unfold f_X7_takeByGroups
    refine g_iload_n hX dX7_takeByGroups_0 rfl rfl ?_
    refine g_istore_n hX dX7_takeByGroups_1 rfl (Nat.le_of_ble_eq_true rfl) rfl ?_
    refine g_iconst hX dX7_takeByGroups_2 ic_0 ?_
    refine g_istore hX dX7_takeByGroups_3 (Nat.le_of_ble_eq_true rfl) rfl ?_
    refine g_loop (Hd := fun s : Int32 × Int32 × MM => J Z X 7 cm s.2.2 lm 5 [some (.ref (ad Z 32 0)), some (.int a1), some (.int a2), some (.int s.1), some (.int s.2.1), none, none] []) (Ex := fun s : Int32 × Int32 × MM => J Z X 7 cm s.2.2 lm 116 [some (.ref (ad Z 32 0)), some (.int a1), some (.int a2), some (.int s.1), some (.int s.2.1), none, none] []) ?_ ?_
    · rintro ⟨s5_3, s5_4, m5_⟩
      show G _ (f_X7_takeByGroups_B5 a1 s5_3 s5_4 m5_) (J Z X 7 cm m5_ lm 5 [some (.ref (ad Z 32 0)), some (.int a1), some (.int a2), some (.int s5_3), some (.int s5_4), none, none] [])
      unfold f_X7_takeByGroups_B5
      refine g_iload hX dX7_takeByGroups_5 rfl ?_
      refine g_iconst hX dX7_takeByGroups_7 ic_4 ?_
      refine g_icmp_ge hX dX7_takeByGroups_8 (fun h8 => ?_) (fun h8 => ?_)
      · exact g_wk (lv0 := [some (.ref (ad Z 32 0)), some (.int a1), some (.int a2), some (.int s5_3), some (.int s5_4), none, none]) ⟨rfl, rfl, rfl, rfl, rfl, trivial⟩ (g_end (fun h => h))
      · refine g_aload_n hX dX7_takeByGroups_11 rfl rfl ?_
        refine g_get hX fi_7_22 p7_0 e7_0 rfl dX7_takeByGroups_12 ?_
        refine g_iconst hX dX7_takeByGroups_15 ic_4 ?_
        refine g_iload_n hX dX7_takeByGroups_16 rfl rfl ?_
        refine g_imul hX dX7_takeByGroups_17 ?_
        refine g_iload hX dX7_takeByGroups_18 rfl ?_
        refine g_iadd hX dX7_takeByGroups_20 ?_
        refine g_iald hX p7_5 e7_5 dX7_takeByGroups_21 ?_
        intro x21 hx21
        refine g_istore hX dX7_takeByGroups_22 (Nat.le_of_ble_eq_true rfl) rfl ?_
        refine g_iconst hX dX7_takeByGroups_24 ic_0 ?_
        refine g_istore hX dX7_takeByGroups_25 (Nat.le_of_ble_eq_true rfl) rfl ?_
        refine g_loop (Hd := fun s : Int32 × Int32 × Int32 × MM => J Z X 7 cm s.2.2.2 lm 27 [some (.ref (ad Z 32 0)), some (.int a1), some (.int a2), some (.int s.1), some (.int s5_4), some (.int s.2.1), some (.int s.2.2.1)] []) (Ex := fun s : Int32 × Int32 × Int32 × MM => J Z X 7 cm s.2.2.2 lm 110 [some (.ref (ad Z 32 0)), some (.int a1), some (.int a2), some (.int s.1), some (.int s5_4), some (.int s.2.1), some (.int s.2.2.1)] []) ?_ ?_
        · rintro ⟨s27_3, s27_5, s27_6, m27_⟩
          show G _ (f_X7_takeByGroups_B27 s5_4 s27_3 s27_5 s27_6 m27_) (J Z X 7 cm m27_ lm 27 [some (.ref (ad Z 32 0)), some (.int a1), some (.int a2), some (.int s27_3), some (.int s5_4), some (.int s27_5), some (.int s27_6)] [])
          unfold f_X7_takeByGroups_B27
          refine g_iload hX dX7_takeByGroups_27 rfl ?_
          refine g_aload_n hX dX7_takeByGroups_29 rfl rfl ?_
          refine g_get hX fi_7_123 p7_0 e7_0 rfl dX7_takeByGroups_30 ?_
          refine g_icmp_ge hX dX7_takeByGroups_33 (fun h33 => ?_) (fun h33 => ?_)
          · exact g_wk (lv0 := [some (.ref (ad Z 32 0)), some (.int a1), some (.int a2), some (.int s27_3), some (.int s5_4), some (.int s27_5), some (.int s27_6)]) ⟨rfl, rfl, rfl, rfl, rfl, rfl, rfl, trivial⟩ (g_end (fun h => h))
          · refine g_iload_n hX dX7_takeByGroups_36 rfl rfl ?_
            refine g_if_le hX dX7_takeByGroups_37 (fun h37 => ?_) (fun h37 => ?_)
            · exact g_wk (lv0 := [some (.ref (ad Z 32 0)), some (.int a1), some (.int a2), some (.int s27_3), some (.int s5_4), some (.int s27_5), some (.int s27_6)]) ⟨rfl, rfl, rfl, rfl, rfl, rfl, rfl, trivial⟩ (g_end (fun h => h))
            · refine g_iload hX dX7_takeByGroups_40 rfl ?_
              refine g_if_le hX dX7_takeByGroups_42 (fun h42 => ?_) (fun h42 => ?_)
              · exact g_wk (lv0 := [some (.ref (ad Z 32 0)), some (.int a1), some (.int a2), some (.int s27_3), some (.int s5_4), some (.int s27_5), some (.int s27_6)]) ⟨rfl, rfl, rfl, rfl, rfl, rfl, rfl, trivial⟩ (g_end (fun h => h))
              · refine g_aload_n hX dX7_takeByGroups_45 rfl rfl ?_
                refine g_get hX fi_7_44 p7_0 e7_0 rfl dX7_takeByGroups_46 ?_
                refine g_iload hX dX7_takeByGroups_49 rfl ?_
                refine g_zald hX p7_12 e7_12 dX7_takeByGroups_51 ?_
                intro x51 hx51
                refine g_if_ne hX dX7_takeByGroups_52 (fun h52 => ?_) (fun h52 => ?_)
                · refine g_aload_n hX dX7_takeByGroups_55 rfl rfl ?_
                  refine g_aload_n hX dX7_takeByGroups_56 rfl rfl ?_
                  refine g_get hX fi_7_41 p7_0 e7_0 rfl dX7_takeByGroups_57 ?_
                  refine g_iload hX dX7_takeByGroups_60 rfl ?_
                  refine g_iald hX p7_11 e7_11 dX7_takeByGroups_62 ?_
                  intro x62 hx62
                  refine g_iconst hX dX7_takeByGroups_63 ic_3 ?_
                  refine g_callV hX (As := [.int x62, .int 3]) (fun r => (some (.int r))) (fun _ => cm) (fun _ => m27_) (fun _ => lm) (fun r hr => c_X7_of  hr) mi_X7_of ml_7_103 p7_0 e7_0 rfl rfl rfl rfl rfl (Nat.le_of_ble_eq_true rfl) dX7_takeByGroups_64 ?_
                  intro x64 hx64
                  refine g_iload hX dX7_takeByGroups_67 rfl ?_
                  refine g_callS hX (As := [.int x64, .int s5_4]) (fun r => (some (.int r))) (fun _ => cm) (fun _ => m27_) (fun _ => lm) (fun r hr => c_X7_isIn  hr) mi_X7_isIn ml_7_120 rfl rfl rfl (Nat.le_of_ble_eq_true rfl) dX7_takeByGroups_69 ?_
                  intro x69 hx69
                  refine g_iconst hX dX7_takeByGroups_72 ic_1 ?_
                  refine g_icmp_ne hX dX7_takeByGroups_73 (fun h73 => ?_) (fun h73 => ?_)
                  · refine g_aload_n hX dX7_takeByGroups_76 rfl rfl ?_
                    refine g_get hX fi_7_44 p7_0 e7_0 rfl dX7_takeByGroups_77 ?_
                    refine g_iload hX dX7_takeByGroups_80 rfl ?_
                    refine g_iconst hX dX7_takeByGroups_82 ic_1 ?_
                    refine g_zastM hX p7_12 (s7_12 Z _) (by decide) dX7_takeByGroups_83 ?_
                    intro g83 hg83
                    refine g_aload_n hX dX7_takeByGroups_84 rfl rfl ?_
                    refine g_get hX fi_7_34 p7_0 e7_0 rfl dX7_takeByGroups_85 ?_
                    refine g_aload_n hX dX7_takeByGroups_88 rfl rfl ?_
                    refine g_get hX fi_7_41 p7_0 e7_0 rfl dX7_takeByGroups_89 ?_
                    refine g_iload hX dX7_takeByGroups_92 rfl ?_
                    refine g_iald hX p7_11 e7_11 dX7_takeByGroups_94 ?_
                    intro x94 hx94
                    refine g_iload hX dX7_takeByGroups_95 rfl ?_
                    refine g_iastM hX p7_9 (s7_9 Z _) dX7_takeByGroups_97 ?_
                    intro g97 hg97
                    refine g_iinc hX dX7_takeByGroups_98 ic_m1 rfl (Nat.le_of_ble_eq_true rfl) rfl ?_
                    refine g_iinc hX dX7_takeByGroups_101 ic_m1 rfl (Nat.le_of_ble_eq_true rfl) rfl ?_
                    refine g_iinc hX dX7_takeByGroups_104 ic_1 rfl (Nat.le_of_ble_eq_true rfl) rfl ?_
                    refine g_goto hX dX7_takeByGroups_107 ?_
                    exact g_wk (lv0 := [some (.ref (ad Z 32 0)), some (.int a1), some (.int a2), some (.int (s27_3 + (-1))), some (.int s5_4), some (.int (s27_5 + (-1))), some (.int (s27_6 + 1))]) ⟨rfl, rfl, rfl, rfl, rfl, rfl, rfl, trivial⟩ (g_end (fun h => h))
                  · refine g_iinc hX dX7_takeByGroups_104 ic_1 rfl (Nat.le_of_ble_eq_true rfl) rfl ?_
                    refine g_goto hX dX7_takeByGroups_107 ?_
                    exact g_wk (lv0 := [some (.ref (ad Z 32 0)), some (.int a1), some (.int a2), some (.int s27_3), some (.int s5_4), some (.int s27_5), some (.int (s27_6 + 1))]) ⟨rfl, rfl, rfl, rfl, rfl, rfl, rfl, trivial⟩ (g_end (fun h => h))
                · refine g_iinc hX dX7_takeByGroups_104 ic_1 rfl (Nat.le_of_ble_eq_true rfl) rfl ?_
                  refine g_goto hX dX7_takeByGroups_107 ?_
                  exact g_wk (lv0 := [some (.ref (ad Z 32 0)), some (.int a1), some (.int a2), some (.int s27_3), some (.int s5_4), some (.int s27_5), some (.int (s27_6 + 1))]) ⟨rfl, rfl, rfl, rfl, rfl, rfl, rfl, trivial⟩ (g_end (fun h => h))
        · rintro ⟨s27_3, s27_5, s27_6, m27_⟩
          show G _ _ (J Z X 7 cm m27_ lm 110 [some (.ref (ad Z 32 0)), some (.int a1), some (.int a2), some (.int s27_3), some (.int s5_4), some (.int s27_5), some (.int s27_6)] [])
          refine g_iinc hX dX7_takeByGroups_110 ic_1 rfl (Nat.le_of_ble_eq_true rfl) rfl ?_
          refine g_goto hX dX7_takeByGroups_113 ?_
          exact g_wk (lv0 := [some (.ref (ad Z 32 0)), some (.int a1), some (.int a2), some (.int s27_3), some (.int (s5_4 + 1)), none, none]) ⟨rfl, rfl, rfl, rfl, rfl, trivial⟩ (g_end (fun h => h))
    · rintro ⟨s5_3, s5_4, m5_⟩
      show G _ _ (J Z X 7 cm m5_ lm 116 [some (.ref (ad Z 32 0)), some (.int a1), some (.int a2), some (.int s5_3), some (.int s5_4), none, none] [])
      refine g_aload_n hX dX7_takeByGroups_116 rfl rfl ?_
      refine g_iload_n hX dX7_takeByGroups_117 rfl rfl ?_
      refine g_callV hX (As := [.int s5_3]) (fun _ => none) (fun _ => cm) (fun r => r) (fun _ => lm) (fun r hr => c_X7_takeBest  hr) mi_X7_takeBest ml_7_151 p7_0 e7_0 rfl rfl rfl rfl rfl (Nat.le_of_ble_eq_true rfl) dX7_takeByGroups_118 ?_
      intro r118 hr118
      exact g_vret hX (fun h => h) dX7_takeByGroups_121
  exact g r h hF

def f_X7_takeIn_B80 (a1 : Int32) (s80_3 : Int32) (m80_ : MM) : Option ((Int32 × MM) ⊕ (Int32 × MM)) :=
  if (m80_ 0 14) ≤ s80_3 then
    some (.inl (s80_3, m80_))
  else
    (rd 16 (m80_ 12) s80_3).bind fun x93 =>
    if x93 = 0 then
      some (.inr (s80_3 + 1, m80_))
    else
      (rd 16 (m80_ 11) s80_3).bind fun x106 =>
      (wr 16 (m80_ 8) x106 a1).bind fun g108 =>
      (rd 4 ((u2 m80_ 8 g108) 6) a1).bind fun x115 =>
      (wr 4 ((u2 m80_ 8 g108) 6) a1 (x115 + 1)).bind fun g118 =>
      some (.inr (s80_3 + 1, u2 (u2 m80_ 8 g108) 6 g118))

def f_X7_takeIn (mm : MM) (a1 : Int32) : Option (MM) :=
  (f_X7_findCandidates mm a1).bind fun r2 =>
  (rd 4 (r2 4) a1).bind fun x14 =>
  ((if x14 ≤ (r2 0 14) then
      (rd 4 (r2 4) a1).bind fun x30 =>
      some x30
    else
      some (r2 0 14)) : Option (Int32)).bind fun k31_0 =>
  (rd 159 (r2 1) 156).bind fun x39 =>
  ((if x39 = 0 then
      (f_X7_takeFilling r2 a1 k31_0).bind fun r46 =>
      some r46
    else
      (rd 159 (r2 1) 156).bind fun x59 =>
      if x59 = 1 then
        (f_X7_takeByGroups r2 a1 k31_0).bind fun r67 =>
        some r67
      else
        (f_X7_takeBest r2 k31_0).bind fun r75 =>
        some r75) : Option (MM)).bind fun m78 =>
  (itr (fun s : Int32 × MM => f_X7_takeIn_B80 a1 s.1 s.2) 2000 (0, m78)).bind fun (s80_3, m80_) =>
  some m80_

abbrev rm_X7_takeIn : Room := { frames := 3, cells := 0, slots := 0, locals := 71 }
set_option maxHeartbeats 2000000 in
set_option maxRecDepth 20000 in
theorem c_X7_takeIn {Z : ZC} {cm : CM} {mm : MM} {lm : LM} {a1 : Int32} {r : MM}  (h : f_X7_takeIn mm a1 = some r) : Ct Z yX7_takeIn cX7_takeIn 4 none rm_X7_takeIn [.ref (ad Z 32 0), .int a1] cm mm lm none cm r lm := by
  refine Ct_of (own := RX7) [some (.ref (ad Z 32 0)), some (.int a1), none, none] ⟨by decide, rfl⟩ rfl (Nat.le_of_ble_eq_true rfl) rfl (fun X hX hF => ?_)
  have g : G (fun r : MM => Fx Z X none none cm r lm) (f_X7_takeIn mm a1) (J Z X 4 cm mm lm 0 [some (.ref (ad Z 32 0)), some (.int a1), none, none] []) := by
    unfold f_X7_takeIn
    refine g_aload_n hX dX7_takeIn_0 rfl rfl ?_
    refine g_iload_n hX dX7_takeIn_1 rfl rfl ?_
    refine g_callV hX (As := [.int a1]) (fun _ => none) (fun _ => cm) (fun r => r) (fun _ => lm) (fun r hr => c_X7_findCandidates  hr) mi_X7_findCandidates ml_7_154 p7_0 e7_0 rfl rfl rfl rfl rfl (Nat.le_of_ble_eq_true rfl) dX7_takeIn_2 ?_
    intro r2 hr2
    refine g_aload_n hX dX7_takeIn_5 rfl rfl ?_
    refine g_get hX fi_7_123 p7_0 e7_0 rfl dX7_takeIn_6 ?_
    refine g_aload_n hX dX7_takeIn_9 rfl rfl ?_
    refine g_get hX fi_7_19 p7_0 e7_0 rfl dX7_takeIn_10 ?_
    refine g_iload_n hX dX7_takeIn_13 rfl rfl ?_
    refine g_iald hX p7_4 e7_4 dX7_takeIn_14 ?_
    intro x14 hx14
    refine g_bind (fun v : Int32 => J Z X 4 cm r2 lm 31 [some (.ref (ad Z 32 0)), some (.int a1), none, none] [.int v]) ?_ ?_
    · refine g_icmp_ge hX dX7_takeIn_15 (fun h15 => ?_) (fun h15 => ?_)
      · refine g_aload_n hX dX7_takeIn_25 rfl rfl ?_
        refine g_get hX fi_7_19 p7_0 e7_0 rfl dX7_takeIn_26 ?_
        refine g_iload_n hX dX7_takeIn_29 rfl rfl ?_
        refine g_iald hX p7_4 e7_4 dX7_takeIn_30 ?_
        intro x30 hx30
        exact g_wk (lv0 := [some (.ref (ad Z 32 0)), some (.int a1), none, none]) ⟨rfl, rfl, trivial⟩ (g_end (fun h => h))
      · refine g_aload_n hX dX7_takeIn_18 rfl rfl ?_
        refine g_get hX fi_7_123 p7_0 e7_0 rfl dX7_takeIn_19 ?_
        refine g_goto hX dX7_takeIn_22 ?_
        exact g_wk (lv0 := [some (.ref (ad Z 32 0)), some (.int a1), none, none]) ⟨rfl, rfl, trivial⟩ (g_end (fun h => h))
    · intro k31_0
      show G _ _ (J Z X 4 cm r2 lm 31 [some (.ref (ad Z 32 0)), some (.int a1), none, none] [.int k31_0])
      refine g_istore_n hX dX7_takeIn_31 rfl (Nat.le_of_ble_eq_true rfl) rfl ?_
      refine g_aload_n hX dX7_takeIn_32 rfl rfl ?_
      refine g_get hX fi_7_7 p7_0 e7_0 rfl dX7_takeIn_33 ?_
      refine g_sipush hX dX7_takeIn_36 sp_156 ?_
      refine g_iald hX p7_1 e7_1 dX7_takeIn_39 ?_
      intro x39 hx39
      refine g_bind (fun v : MM => J Z X 4 cm v lm 78 [some (.ref (ad Z 32 0)), some (.int a1), some (.int k31_0), none] []) ?_ ?_
      · refine g_if_ne hX dX7_takeIn_40 (fun h40 => ?_) (fun h40 => ?_)
        · refine g_aload_n hX dX7_takeIn_43 rfl rfl ?_
          refine g_iload_n hX dX7_takeIn_44 rfl rfl ?_
          refine g_iload_n hX dX7_takeIn_45 rfl rfl ?_
          refine g_callV hX (As := [.int a1, .int k31_0]) (fun _ => none) (fun _ => cm) (fun r => r) (fun _ => lm) (fun r hr => c_X7_takeFilling  hr) mi_X7_takeFilling ml_7_157 p7_0 e7_0 rfl rfl rfl rfl rfl (Nat.le_of_ble_eq_true rfl) dX7_takeIn_46 ?_
          intro r46 hr46
          refine g_goto hX dX7_takeIn_49 ?_
          exact g_wk (lv0 := [some (.ref (ad Z 32 0)), some (.int a1), some (.int k31_0), none]) ⟨rfl, rfl, rfl, trivial⟩ (g_end (fun h => h))
        · refine g_aload_n hX dX7_takeIn_52 rfl rfl ?_
          refine g_get hX fi_7_7 p7_0 e7_0 rfl dX7_takeIn_53 ?_
          refine g_sipush hX dX7_takeIn_56 sp_156 ?_
          refine g_iald hX p7_1 e7_1 dX7_takeIn_59 ?_
          intro x59 hx59
          refine g_iconst hX dX7_takeIn_60 ic_1 ?_
          refine g_icmp_ne hX dX7_takeIn_61 (fun h61 => ?_) (fun h61 => ?_)
          · refine g_aload_n hX dX7_takeIn_64 rfl rfl ?_
            refine g_iload_n hX dX7_takeIn_65 rfl rfl ?_
            refine g_iload_n hX dX7_takeIn_66 rfl rfl ?_
            refine g_callV hX (As := [.int a1, .int k31_0]) (fun _ => none) (fun _ => cm) (fun r => r) (fun _ => lm) (fun r hr => c_X7_takeByGroups  hr) mi_X7_takeByGroups ml_7_160 p7_0 e7_0 rfl rfl rfl rfl rfl (Nat.le_of_ble_eq_true rfl) dX7_takeIn_67 ?_
            intro r67 hr67
            refine g_goto hX dX7_takeIn_70 ?_
            exact g_wk (lv0 := [some (.ref (ad Z 32 0)), some (.int a1), some (.int k31_0), none]) ⟨rfl, rfl, rfl, trivial⟩ (g_end (fun h => h))
          · refine g_aload_n hX dX7_takeIn_73 rfl rfl ?_
            refine g_iload_n hX dX7_takeIn_74 rfl rfl ?_
            refine g_callV hX (As := [.int k31_0]) (fun _ => none) (fun _ => cm) (fun r => r) (fun _ => lm) (fun r hr => c_X7_takeBest  hr) mi_X7_takeBest ml_7_151 p7_0 e7_0 rfl rfl rfl rfl rfl (Nat.le_of_ble_eq_true rfl) dX7_takeIn_75 ?_
            intro r75 hr75
            exact g_wk (lv0 := [some (.ref (ad Z 32 0)), some (.int a1), some (.int k31_0), none]) ⟨rfl, rfl, rfl, trivial⟩ (g_end (fun h => h))
      · intro m78
        show G _ _ (J Z X 4 cm m78 lm 78 [some (.ref (ad Z 32 0)), some (.int a1), some (.int k31_0), none] [])
        refine g_iconst hX dX7_takeIn_78 ic_0 ?_
        refine g_istore_n hX dX7_takeIn_79 rfl (Nat.le_of_ble_eq_true rfl) rfl ?_
        refine g_loop (Hd := fun s : Int32 × MM => J Z X 4 cm s.2 lm 80 [some (.ref (ad Z 32 0)), some (.int a1), some (.int k31_0), some (.int s.1)] []) (Ex := fun s : Int32 × MM => J Z X 4 cm s.2 lm 125 [some (.ref (ad Z 32 0)), some (.int a1), some (.int k31_0), some (.int s.1)] []) ?_ ?_
        · rintro ⟨s80_3, m80_⟩
          show G _ (f_X7_takeIn_B80 a1 s80_3 m80_) (J Z X 4 cm m80_ lm 80 [some (.ref (ad Z 32 0)), some (.int a1), some (.int k31_0), some (.int s80_3)] [])
          unfold f_X7_takeIn_B80
          refine g_iload_n hX dX7_takeIn_80 rfl rfl ?_
          refine g_aload_n hX dX7_takeIn_81 rfl rfl ?_
          refine g_get hX fi_7_123 p7_0 e7_0 rfl dX7_takeIn_82 ?_
          refine g_icmp_ge hX dX7_takeIn_85 (fun h85 => ?_) (fun h85 => ?_)
          · exact g_wk (lv0 := [some (.ref (ad Z 32 0)), some (.int a1), some (.int k31_0), some (.int s80_3)]) ⟨rfl, rfl, rfl, rfl, trivial⟩ (g_end (fun h => h))
          · refine g_aload_n hX dX7_takeIn_88 rfl rfl ?_
            refine g_get hX fi_7_44 p7_0 e7_0 rfl dX7_takeIn_89 ?_
            refine g_iload_n hX dX7_takeIn_92 rfl rfl ?_
            refine g_zald hX p7_12 e7_12 dX7_takeIn_93 ?_
            intro x93 hx93
            refine g_if_eq hX dX7_takeIn_94 (fun h94 => ?_) (fun h94 => ?_)
            · refine g_iinc hX dX7_takeIn_119 ic_1 rfl (Nat.le_of_ble_eq_true rfl) rfl ?_
              refine g_goto hX dX7_takeIn_122 ?_
              exact g_wk (lv0 := [some (.ref (ad Z 32 0)), some (.int a1), some (.int k31_0), some (.int (s80_3 + 1))]) ⟨rfl, rfl, rfl, rfl, trivial⟩ (g_end (fun h => h))
            · refine g_aload_n hX dX7_takeIn_97 rfl rfl ?_
              refine g_get hX fi_7_31 p7_0 e7_0 rfl dX7_takeIn_98 ?_
              refine g_aload_n hX dX7_takeIn_101 rfl rfl ?_
              refine g_get hX fi_7_41 p7_0 e7_0 rfl dX7_takeIn_102 ?_
              refine g_iload_n hX dX7_takeIn_105 rfl rfl ?_
              refine g_iald hX p7_11 e7_11 dX7_takeIn_106 ?_
              intro x106 hx106
              refine g_iload_n hX dX7_takeIn_107 rfl rfl ?_
              refine g_iastM hX p7_8 (s7_8 Z _) dX7_takeIn_108 ?_
              intro g108 hg108
              refine g_aload_n hX dX7_takeIn_109 rfl rfl ?_
              refine g_get hX fi_7_25 p7_0 e7_0 rfl dX7_takeIn_110 ?_
              refine g_iload_n hX dX7_takeIn_113 rfl rfl ?_
              refine g_dup2 hX dX7_takeIn_114 rfl rfl ?_
              refine g_iald hX p7_6 e7_6 dX7_takeIn_115 ?_
              intro x115 hx115
              refine g_iconst hX dX7_takeIn_116 ic_1 ?_
              refine g_iadd hX dX7_takeIn_117 ?_
              refine g_iastM hX p7_6 (s7_6 Z _) dX7_takeIn_118 ?_
              intro g118 hg118
              refine g_iinc hX dX7_takeIn_119 ic_1 rfl (Nat.le_of_ble_eq_true rfl) rfl ?_
              refine g_goto hX dX7_takeIn_122 ?_
              exact g_wk (lv0 := [some (.ref (ad Z 32 0)), some (.int a1), some (.int k31_0), some (.int (s80_3 + 1))]) ⟨rfl, rfl, rfl, rfl, trivial⟩ (g_end (fun h => h))
        · rintro ⟨s80_3, m80_⟩
          show G _ _ (J Z X 4 cm m80_ lm 125 [some (.ref (ad Z 32 0)), some (.int a1), some (.int k31_0), some (.int s80_3)] [])
          exact g_vret hX (fun h => h) dX7_takeIn_125
  exact g r h hF

def f_X7_firstGroup_B2 (a1 : Int32) (a2 : Int32) (s2_3 : Int32) (m2_ : MM) : Option (((Int32 × MM) ⊕ (Int32 × MM)) ⊕ (Int32 × MM)) :=
  if 4 ≤ s2_3 then
    some (.inl (.inl (s2_3, m2_)))
  else
    (f_X7_of m2_ a1 3).bind fun x10 =>
    (f_X7_isIn x10 s2_3).bind fun x14 =>
    if x14 = 1 then
      (rd 4 (m2_ 16) s2_3).bind fun x26 =>
      if x26 ≤ 0 then
        some (.inr (s2_3 + 1, m2_))
      else
        (rd 4 (m2_ 16) s2_3).bind fun x36 =>
        (wr 4 (m2_ 16) s2_3 (x36 - 1)).bind fun g39 =>
        (f_X7_sumHave (u2 m2_ 16 g39)).bind fun r41 =>
        (f_X7_leastCut r41 (-9)).bind fun x47 =>
        if x47 < a2 then
          (rd 4 (r41 16) s2_3).bind fun x62 =>
          (wr 4 (r41 16) s2_3 (x62 + 1)).bind fun g65 =>
          some (.inr (s2_3 + 1, u2 r41 16 g65))
        else
          some (.inl (.inr (s2_3, r41)))
    else
      some (.inr (s2_3 + 1, m2_))

def f_X7_firstGroup (mm : MM) (a1 a2 : Int32) : Option (Int32 × MM) :=
  (itr (fun s : Int32 × MM => f_X7_firstGroup_B2 a1 a2 s.1 s.2) 2000 (0, mm)).bind fun ou => match ou with
  | .inr r => some r
  | .inl (s2_3, m2_) =>
  (f_X7_sumHave m2_).bind fun r73 =>
  some ((-9), r73)

abbrev rm_X7_firstGroup : Room := { frames := 2, cells := 0, slots := 0, locals := 43 }
set_option maxHeartbeats 2000000 in
set_option maxRecDepth 20000 in
theorem c_X7_firstGroup {Z : ZC} {cm : CM} {mm : MM} {lm : LM} {a1 a2 : Int32} {r : Int32 × MM}  (h : f_X7_firstGroup mm a1 a2 = some r) : Ct Z yX7_firstGroup cX7_firstGroup 4 (some .int) rm_X7_firstGroup [.ref (ad Z 32 0), .int a1, .int a2] cm mm lm (some (.int r.1)) cm r.2 lm := by
  refine Ct_of (own := RX7) [some (.ref (ad Z 32 0)), some (.int a1), some (.int a2), none] ⟨by decide, rfl⟩ rfl (Nat.le_of_ble_eq_true rfl) rfl (fun X hX hF => ?_)
  have g : G (fun r : Int32 × MM => Fx Z X (some .int) (some (.int r.1)) cm r.2 lm) (f_X7_firstGroup mm a1 a2) (J Z X 4 cm mm lm 0 [some (.ref (ad Z 32 0)), some (.int a1), some (.int a2), none] []) := by
    unfold f_X7_firstGroup
    refine g_iconst hX dX7_firstGroup_0 ic_0 ?_
    refine g_istore_n hX dX7_firstGroup_1 rfl (Nat.le_of_ble_eq_true rfl) rfl ?_
    refine g_loop (Hd := fun s : Int32 × MM => J Z X 4 cm s.2 lm 2 [some (.ref (ad Z 32 0)), some (.int a1), some (.int a2), some (.int s.1)] []) (Ex := fun ou : (Int32 × MM) ⊕ (Int32 × MM) => match ou with | .inl e => J Z X 4 cm e.2 lm 72 [some (.ref (ad Z 32 0)), some (.int a1), some (.int a2), some (.int e.1)] [] | .inr r => Fx Z X (some .int) (some (.int r.1)) cm r.2 lm) ?_ ?_
    · rintro ⟨s2_3, m2_⟩
      show G _ (f_X7_firstGroup_B2 a1 a2 s2_3 m2_) (J Z X 4 cm m2_ lm 2 [some (.ref (ad Z 32 0)), some (.int a1), some (.int a2), some (.int s2_3)] [])
      unfold f_X7_firstGroup_B2
      refine g_iload_n hX dX7_firstGroup_2 rfl rfl ?_
      refine g_iconst hX dX7_firstGroup_3 ic_4 ?_
      refine g_icmp_ge hX dX7_firstGroup_4 (fun h4 => ?_) (fun h4 => ?_)
      · exact g_wk (lv0 := [some (.ref (ad Z 32 0)), some (.int a1), some (.int a2), some (.int s2_3)]) ⟨rfl, rfl, rfl, rfl, trivial⟩ (g_end (fun h => h))
      · refine g_aload_n hX dX7_firstGroup_7 rfl rfl ?_
        refine g_iload_n hX dX7_firstGroup_8 rfl rfl ?_
        refine g_iconst hX dX7_firstGroup_9 ic_3 ?_
        refine g_callV hX (As := [.int a1, .int 3]) (fun r => (some (.int r))) (fun _ => cm) (fun _ => m2_) (fun _ => lm) (fun r hr => c_X7_of  hr) mi_X7_of ml_7_103 p7_0 e7_0 rfl rfl rfl rfl rfl (Nat.le_of_ble_eq_true rfl) dX7_firstGroup_10 ?_
        intro x10 hx10
        refine g_iload_n hX dX7_firstGroup_13 rfl rfl ?_
        refine g_callS hX (As := [.int x10, .int s2_3]) (fun r => (some (.int r))) (fun _ => cm) (fun _ => m2_) (fun _ => lm) (fun r hr => c_X7_isIn  hr) mi_X7_isIn ml_7_120 rfl rfl rfl (Nat.le_of_ble_eq_true rfl) dX7_firstGroup_14 ?_
        intro x14 hx14
        refine g_iconst hX dX7_firstGroup_17 ic_1 ?_
        refine g_icmp_ne hX dX7_firstGroup_18 (fun h18 => ?_) (fun h18 => ?_)
        · refine g_aload_n hX dX7_firstGroup_21 rfl rfl ?_
          refine g_get hX fi_7_56 p7_0 e7_0 rfl dX7_firstGroup_22 ?_
          refine g_iload_n hX dX7_firstGroup_25 rfl rfl ?_
          refine g_iald hX p7_16 e7_16 dX7_firstGroup_26 ?_
          intro x26 hx26
          refine g_if_le hX dX7_firstGroup_27 (fun h27 => ?_) (fun h27 => ?_)
          · refine g_iinc hX dX7_firstGroup_66 ic_1 rfl (Nat.le_of_ble_eq_true rfl) rfl ?_
            refine g_goto hX dX7_firstGroup_69 ?_
            exact g_wk (lv0 := [some (.ref (ad Z 32 0)), some (.int a1), some (.int a2), some (.int (s2_3 + 1))]) ⟨rfl, rfl, rfl, rfl, trivial⟩ (g_end (fun h => h))
          · refine g_aload_n hX dX7_firstGroup_30 rfl rfl ?_
            refine g_get hX fi_7_56 p7_0 e7_0 rfl dX7_firstGroup_31 ?_
            refine g_iload_n hX dX7_firstGroup_34 rfl rfl ?_
            refine g_dup2 hX dX7_firstGroup_35 rfl rfl ?_
            refine g_iald hX p7_16 e7_16 dX7_firstGroup_36 ?_
            intro x36 hx36
            refine g_iconst hX dX7_firstGroup_37 ic_1 ?_
            refine g_isub hX dX7_firstGroup_38 ?_
            refine g_iastM hX p7_16 (s7_16 Z _) dX7_firstGroup_39 ?_
            intro g39 hg39
            refine g_aload_n hX dX7_firstGroup_40 rfl rfl ?_
            refine g_callV hX (As := []) (fun _ => none) (fun _ => cm) (fun r => r) (fun _ => lm) (fun r hr => c_X7_sumHave  hr) mi_X7_sumHave ml_7_135 p7_0 e7_0 rfl rfl rfl rfl rfl (Nat.le_of_ble_eq_true rfl) dX7_firstGroup_41 ?_
            intro r41 hr41
            refine g_aload_n hX dX7_firstGroup_44 rfl rfl ?_
            refine g_bipush hX dX7_firstGroup_45 bp_m9 ?_
            refine g_callV hX (As := [.int (-9)]) (fun r => (some (.int r))) (fun _ => cm) (fun _ => r41) (fun _ => lm) (fun r hr => c_X7_leastCut  hr) mi_X7_leastCut ml_7_144 p7_0 e7_0 rfl rfl rfl rfl rfl (Nat.le_of_ble_eq_true rfl) dX7_firstGroup_47 ?_
            intro x47 hx47
            refine g_iload_n hX dX7_firstGroup_50 rfl rfl ?_
            refine g_icmp_lt hX dX7_firstGroup_51 (fun h51 => ?_) (fun h51 => ?_)
            · refine g_aload_n hX dX7_firstGroup_56 rfl rfl ?_
              refine g_get hX fi_7_56 p7_0 e7_0 rfl dX7_firstGroup_57 ?_
              refine g_iload_n hX dX7_firstGroup_60 rfl rfl ?_
              refine g_dup2 hX dX7_firstGroup_61 rfl rfl ?_
              refine g_iald hX p7_16 e7_16 dX7_firstGroup_62 ?_
              intro x62 hx62
              refine g_iconst hX dX7_firstGroup_63 ic_1 ?_
              refine g_iadd hX dX7_firstGroup_64 ?_
              refine g_iastM hX p7_16 (s7_16 Z _) dX7_firstGroup_65 ?_
              intro g65 hg65
              refine g_iinc hX dX7_firstGroup_66 ic_1 rfl (Nat.le_of_ble_eq_true rfl) rfl ?_
              refine g_goto hX dX7_firstGroup_69 ?_
              exact g_wk (lv0 := [some (.ref (ad Z 32 0)), some (.int a1), some (.int a2), some (.int (s2_3 + 1))]) ⟨rfl, rfl, rfl, rfl, trivial⟩ (g_end (fun h => h))
            · refine g_iload_n hX dX7_firstGroup_54 rfl rfl ?_
              exact g_iret hX (fun h => h) dX7_firstGroup_55
        · refine g_iinc hX dX7_firstGroup_66 ic_1 rfl (Nat.le_of_ble_eq_true rfl) rfl ?_
          refine g_goto hX dX7_firstGroup_69 ?_
          exact g_wk (lv0 := [some (.ref (ad Z 32 0)), some (.int a1), some (.int a2), some (.int (s2_3 + 1))]) ⟨rfl, rfl, rfl, rfl, trivial⟩ (g_end (fun h => h))
    · rintro (⟨s2_3, m2_⟩ | r)
      · show G _ _ (J Z X 4 cm m2_ lm 72 [some (.ref (ad Z 32 0)), some (.int a1), some (.int a2), some (.int s2_3)] [])
        refine g_aload_n hX dX7_firstGroup_72 rfl rfl ?_
        refine g_callV hX (As := []) (fun _ => none) (fun _ => cm) (fun r => r) (fun _ => lm) (fun r hr => c_X7_sumHave  hr) mi_X7_sumHave ml_7_135 p7_0 e7_0 rfl rfl rfl rfl rfl (Nat.le_of_ble_eq_true rfl) dX7_firstGroup_73 ?_
        intro r73 hr73
        refine g_bipush hX dX7_firstGroup_76 bp_m9 ?_
        exact g_iret hX (fun h => h) dX7_firstGroup_78
      · exact g_end (fun h => h)
  exact g r h hF
