def f_X1_sumOfDigits_B6 (s6_1 : Int32) (s6_2 : Int32) (s6_3 : Int32) : Option ((Int32 × Int32 × Int32) ⊕ (Int32 × Int32 × Int32)) :=
  if 4 ≤ s6_3 then
    some (.inl (s6_1, s6_2, s6_3))
  else
    (rmI s6_1 6).bind fun x15 =>
    (dvI s6_1 6).bind fun x21 =>
    some (.inr (x21, s6_2 + x15, s6_3 + 1))

def f_X1_sumOfDigits (a0 : Int32) : Option (Int32) :=
  (itr (fun s : Int32 × Int32 × Int32 => f_X1_sumOfDigits_B6 s.1 s.2.1 s.2.2) 2000 (a0, 0, 0)).bind fun (s6_1, s6_2, s6_3) =>
  some s6_2

abbrev rm_X1_sumOfDigits : Room := { frames := 0, cells := 0, slots := 0, locals := 0 }
set_option maxHeartbeats 2000000 in
set_option maxRecDepth 20000 in
theorem c_X1_sumOfDigits {Z : ZC} {cm : CM} {mm : MM} {lm : LM} {a0 : Int32} {r : Int32}  (h : f_X1_sumOfDigits a0 = some r) : Ct Z yX1_sumOfDigits cX1_sumOfDigits 4 (some .int) rm_X1_sumOfDigits [.int a0] cm mm lm (some (.int r)) cm mm lm := by
  refine Ct_of (own := RX1) [some (.int a0), none, none, none] ⟨by decide, rfl⟩ rfl (Nat.le_of_ble_eq_true rfl) rfl (fun X hX hF => ?_)
  have g : G (fun r : Int32 => Fx Z X (some .int) (some (.int r)) cm mm lm) (f_X1_sumOfDigits a0) (J Z X 4 cm mm lm 0 [some (.int a0), none, none, none] []) := by
    unfold f_X1_sumOfDigits
    refine g_iload_n hX dX1_sumOfDigits_0 rfl rfl ?_
    refine g_istore_n hX dX1_sumOfDigits_1 rfl (Nat.le_of_ble_eq_true rfl) rfl ?_
    refine g_iconst hX dX1_sumOfDigits_2 ic_0 ?_
    refine g_istore_n hX dX1_sumOfDigits_3 rfl (Nat.le_of_ble_eq_true rfl) rfl ?_
    refine g_iconst hX dX1_sumOfDigits_4 ic_0 ?_
    refine g_istore_n hX dX1_sumOfDigits_5 rfl (Nat.le_of_ble_eq_true rfl) rfl ?_
    refine g_loop (Hd := fun s : Int32 × Int32 × Int32 => J Z X 4 cm mm lm 6 [some (.int a0), some (.int s.1), some (.int s.2.1), some (.int s.2.2)] []) (Ex := fun s : Int32 × Int32 × Int32 => J Z X 4 cm mm lm 29 [some (.int a0), some (.int s.1), some (.int s.2.1), some (.int s.2.2)] []) ?_ ?_
    · rintro ⟨s6_1, s6_2, s6_3⟩
      show G _ (f_X1_sumOfDigits_B6 s6_1 s6_2 s6_3) (J Z X 4 cm mm lm 6 [some (.int a0), some (.int s6_1), some (.int s6_2), some (.int s6_3)] [])
      unfold f_X1_sumOfDigits_B6
      refine g_iload_n hX dX1_sumOfDigits_6 rfl rfl ?_
      refine g_iconst hX dX1_sumOfDigits_7 ic_4 ?_
      refine g_icmp_ge hX dX1_sumOfDigits_8 (fun h8 => ?_) (fun h8 => ?_)
      · exact g_wk (lv0 := [some (.int a0), some (.int s6_1), some (.int s6_2), some (.int s6_3)]) ⟨rfl, rfl, rfl, rfl, trivial⟩ (g_end (fun h => h))
      · refine g_iload_n hX dX1_sumOfDigits_11 rfl rfl ?_
        refine g_iload_n hX dX1_sumOfDigits_12 rfl rfl ?_
        refine g_bipush hX dX1_sumOfDigits_13 bp_6 ?_
        refine g_irem' hX dX1_sumOfDigits_15 ?_
        intro x15 hx15
        refine g_iadd hX dX1_sumOfDigits_16 ?_
        refine g_istore_n hX dX1_sumOfDigits_17 rfl (Nat.le_of_ble_eq_true rfl) rfl ?_
        refine g_iload_n hX dX1_sumOfDigits_18 rfl rfl ?_
        refine g_bipush hX dX1_sumOfDigits_19 bp_6 ?_
        refine g_idiv' hX dX1_sumOfDigits_21 ?_
        intro x21 hx21
        refine g_istore_n hX dX1_sumOfDigits_22 rfl (Nat.le_of_ble_eq_true rfl) rfl ?_
        refine g_iinc hX dX1_sumOfDigits_23 ic_1 rfl (Nat.le_of_ble_eq_true rfl) rfl ?_
        refine g_goto hX dX1_sumOfDigits_26 ?_
        exact g_wk (lv0 := [some (.int a0), some (.int x21), some (.int (s6_2 + x15)), some (.int (s6_3 + 1))]) ⟨rfl, rfl, rfl, rfl, trivial⟩ (g_end (fun h => h))
    · rintro ⟨s6_1, s6_2, s6_3⟩
      show G _ _ (J Z X 4 cm mm lm 29 [some (.int a0), some (.int s6_1), some (.int s6_2), some (.int s6_3)] [])
      refine g_iload_n hX dX1_sumOfDigits_29 rfl rfl ?_
      exact g_iret hX (fun h => h) dX1_sumOfDigits_30
  exact g r h hF

def f_X1_include_B20 (C : Nat) (a1 : Int32) (a3 : Int32) (s5_4 : Int32) (s20_5 : Int32) (s20_6 : Int32) (s20_7 : Int32) (c20_ : CM) : Option ((Int32 × Int32 × Int32 × CM) ⊕ (Int32 × Int32 × Int32 × CM)) :=
  if 4 ≤ s20_7 then
    some (.inl (s20_5, s20_6, s20_7, c20_))
  else
    (rmI s20_5 6).bind fun x30 =>
    ((if ((a1 >>> (s20_7 &&& 31)) &&& 1) = 1 then
        if x30 ≤ 0 then
          some c20_
        else
          (f_X0_freeReserved c20_ C a3 s20_7).bind fun x54 =>
          if x54 < x30 then
            some c20_
          else
            (f_X4_get c20_ 30 1 1296 (s5_4 - s20_6)).bind fun x75 =>
            (f_X4_add c20_ 30 1 1296 s5_4 x75).bind fun r78 =>
            some r78
      else
        some c20_) : Option (CM)).bind fun c81 =>
    (dvI s20_5 6).bind fun x85 =>
    some (.inr (x85, s20_6 * 6, s20_7 + 1, c81))

def f_X1_include_B5 (C : Nat) (a1 : Int32) (a3 : Int32) (s5_4 : Int32) (c5_ : CM) : Option ((Int32 × CM) ⊕ (Int32 × CM)) :=
  if s5_4 ≤ 0 then
    some (.inl (s5_4, c5_))
  else
    (itr (fun s : Int32 × Int32 × Int32 × CM => f_X1_include_B20 C a1 a3 s5_4 s.1 s.2.1 s.2.2.1 s.2.2.2) 2000 (s5_4, 1, 0, c5_)).bind fun (s20_5, s20_6, s20_7, c20_) =>
    some (.inr (s5_4 + (-1), c20_))

def f_X1_include (cm : CM) (C : Nat) (a1 a3 : Int32) : Option (CM) :=
  (itr (fun s : Int32 × CM => f_X1_include_B5 C a1 a3 s.1 s.2) 2000 (1295, cm)).bind fun (s5_4, c5_) =>
  some c5_

abbrev rm_X1_include : Room := { frames := 2, cells := 0, slots := 0, locals := 43 }
set_option maxHeartbeats 2000000 in
set_option maxRecDepth 20000 in
theorem c_X1_include {Z : ZC} {cm : CM} {mm : MM} {lm : LM} {C : Nat} {a1 a3 : Int32} {r : CM} (hC : isCh C) (h : f_X1_include cm C a1 a3 = some r) : Ct Z yX1_include cX1_include 9 none rm_X1_include [.ref (ad Z 30 0), .int a1, .ref (ad Z C 0), .int a3] cm mm lm none r mm lm := by
  refine Ct_of (own := RX1) [some (.ref (ad Z 30 0)), some (.int a1), some (.ref (ad Z C 0)), some (.int a3), none, none, none, none, none] ⟨by decide, rfl⟩ rfl (Nat.le_of_ble_eq_true rfl) rfl (fun X hX hF => ?_)
  have g : G (fun r : CM => Fx Z X none none r mm lm) (f_X1_include cm C a1 a3) (J Z X 9 cm mm lm 0 [some (.ref (ad Z 30 0)), some (.int a1), some (.ref (ad Z C 0)), some (.int a3), none, none, none, none, none] []) := by
    unfold f_X1_include
    refine g_sipush hX dX1_include_0 sp_1295 ?_
    refine g_istore hX dX1_include_3 (Nat.le_of_ble_eq_true rfl) rfl ?_
    refine g_loop (Hd := fun s : Int32 × CM => J Z X 9 s.2 mm lm 5 [some (.ref (ad Z 30 0)), some (.int a1), some (.ref (ad Z C 0)), some (.int a3), some (.int s.1), none, none, none, none] []) (Ex := fun s : Int32 × CM => J Z X 9 s.2 mm lm 107 [some (.ref (ad Z 30 0)), some (.int a1), some (.ref (ad Z C 0)), some (.int a3), some (.int s.1), none, none, none, none] []) ?_ ?_
    · rintro ⟨s5_4, c5_⟩
      show G _ (f_X1_include_B5 C a1 a3 s5_4 c5_) (J Z X 9 c5_ mm lm 5 [some (.ref (ad Z 30 0)), some (.int a1), some (.ref (ad Z C 0)), some (.int a3), some (.int s5_4), none, none, none, none] [])
      unfold f_X1_include_B5
      refine g_iload hX dX1_include_5 rfl ?_
      refine g_if_le hX dX1_include_7 (fun h7 => ?_) (fun h7 => ?_)
      · exact g_wk (lv0 := [some (.ref (ad Z 30 0)), some (.int a1), some (.ref (ad Z C 0)), some (.int a3), some (.int s5_4), none, none, none, none]) ⟨rfl, rfl, rfl, rfl, rfl, trivial⟩ (g_end (fun h => h))
      · refine g_iload hX dX1_include_10 rfl ?_
        refine g_istore hX dX1_include_12 (Nat.le_of_ble_eq_true rfl) rfl ?_
        refine g_iconst hX dX1_include_14 ic_1 ?_
        refine g_istore hX dX1_include_15 (Nat.le_of_ble_eq_true rfl) rfl ?_
        refine g_iconst hX dX1_include_17 ic_0 ?_
        refine g_istore hX dX1_include_18 (Nat.le_of_ble_eq_true rfl) rfl ?_
        refine g_loop (Hd := fun s : Int32 × Int32 × Int32 × CM => J Z X 9 s.2.2.2 mm lm 20 [some (.ref (ad Z 30 0)), some (.int a1), some (.ref (ad Z C 0)), some (.int a3), some (.int s5_4), some (.int s.1), some (.int s.2.1), some (.int s.2.2.1), none] []) (Ex := fun s : Int32 × Int32 × Int32 × CM => J Z X 9 s.2.2.2 mm lm 101 [some (.ref (ad Z 30 0)), some (.int a1), some (.ref (ad Z C 0)), some (.int a3), some (.int s5_4), some (.int s.1), some (.int s.2.1), some (.int s.2.2.1), none] []) ?_ ?_
        · rintro ⟨s20_5, s20_6, s20_7, c20_⟩
          show G _ (f_X1_include_B20 C a1 a3 s5_4 s20_5 s20_6 s20_7 c20_) (J Z X 9 c20_ mm lm 20 [some (.ref (ad Z 30 0)), some (.int a1), some (.ref (ad Z C 0)), some (.int a3), some (.int s5_4), some (.int s20_5), some (.int s20_6), some (.int s20_7), none] [])
          unfold f_X1_include_B20
          refine g_iload hX dX1_include_20 rfl ?_
          refine g_iconst hX dX1_include_22 ic_4 ?_
          refine g_icmp_ge hX dX1_include_23 (fun h23 => ?_) (fun h23 => ?_)
          · exact g_wk (lv0 := [some (.ref (ad Z 30 0)), some (.int a1), some (.ref (ad Z C 0)), some (.int a3), some (.int s5_4), some (.int s20_5), some (.int s20_6), some (.int s20_7), none]) ⟨rfl, rfl, rfl, rfl, rfl, rfl, rfl, rfl, trivial⟩ (g_end (fun h => h))
          · refine g_iload hX dX1_include_26 rfl ?_
            refine g_bipush hX dX1_include_28 bp_6 ?_
            refine g_irem' hX dX1_include_30 ?_
            intro x30 hx30
            refine g_istore hX dX1_include_31 (Nat.le_of_ble_eq_true rfl) rfl ?_
            refine g_iload_n hX dX1_include_33 rfl rfl ?_
            refine g_iload hX dX1_include_34 rfl ?_
            refine g_ishr hX dX1_include_36 ?_
            refine g_iconst hX dX1_include_37 ic_1 ?_
            refine g_iand hX dX1_include_38 ?_
            refine g_iconst hX dX1_include_39 ic_1 ?_
            refine g_bind (fun v : CM => J Z X 9 v mm lm 81 [some (.ref (ad Z 30 0)), some (.int a1), some (.ref (ad Z C 0)), some (.int a3), some (.int s5_4), some (.int s20_5), some (.int s20_6), some (.int s20_7), some (.int x30)] []) ?_ ?_
            · refine g_icmp_ne hX dX1_include_40 (fun h40 => ?_) (fun h40 => ?_)
              · refine g_iload hX dX1_include_43 rfl ?_
                refine g_if_le hX dX1_include_45 (fun h45 => ?_) (fun h45 => ?_)
                · exact g_wk (lv0 := [some (.ref (ad Z 30 0)), some (.int a1), some (.ref (ad Z C 0)), some (.int a3), some (.int s5_4), some (.int s20_5), some (.int s20_6), some (.int s20_7), some (.int x30)]) ⟨rfl, rfl, rfl, rfl, rfl, rfl, rfl, rfl, rfl, trivial⟩ (g_end (fun h => h))
                · refine g_iload hX dX1_include_48 rfl ?_
                  refine g_aload_n hX dX1_include_50 rfl rfl ?_
                  refine g_iload_n hX dX1_include_51 rfl rfl ?_
                  refine g_iload hX dX1_include_52 rfl ?_
                  refine g_callV hX (As := [.int a3, .int s20_7]) (fun r => (some (.int r))) (fun _ => c20_) (fun _ => mm) (fun _ => lm) (fun r hr => c_X0_freeReserved hC hr) mi_X0_freeReserved ml_1_57 (okC hC (by decide)) (e0_0 hC) rfl rfl rfl rfl rfl (Nat.le_of_ble_eq_true rfl) dX1_include_54 ?_
                  intro x54 hx54
                  refine g_icmp_gt hX dX1_include_57 (fun h57 => ?_) (fun h57 => ?_)
                  · exact g_wk (lv0 := [some (.ref (ad Z 30 0)), some (.int a1), some (.ref (ad Z C 0)), some (.int a3), some (.int s5_4), some (.int s20_5), some (.int s20_6), some (.int s20_7), some (.int x30)]) ⟨rfl, rfl, rfl, rfl, rfl, rfl, rfl, rfl, rfl, trivial⟩ (g_end (fun h => h))
                  · refine g_aload_n hX dX1_include_60 rfl rfl ?_
                    refine g_get hX fi_1_16 p1_0 e1_0 rfl dX1_include_61 ?_
                    refine g_iload hX dX1_include_64 rfl ?_
                    refine g_aload_n hX dX1_include_66 rfl rfl ?_
                    refine g_get hX fi_1_16 p1_0 e1_0 rfl dX1_include_67 ?_
                    refine g_iload hX dX1_include_70 rfl ?_
                    refine g_iload hX dX1_include_72 rfl ?_
                    refine g_isub hX dX1_include_74 ?_
                    refine g_callV hX (As := [.int (s5_4 - s20_6)]) (fun r => (some (.int r))) (fun _ => c20_) (fun _ => mm) (fun _ => lm) (fun r hr => c_X4_get rw1_1 hr) mi_X4_get ml_1_55 rw1_1.1 (eR_0 rw1_1) rfl rfl rfl rfl rfl (Nat.le_of_ble_eq_true rfl) dX1_include_75 ?_
                    intro x75 hx75
                    refine g_callV hX (As := [.int s5_4, .int x75]) (fun _ => none) (fun r => r) (fun _ => mm) (fun _ => lm) (fun r hr => c_X4_add rw1_1 hr) mi_X4_add ml_1_60 rw1_1.1 (eR_0 rw1_1) rfl rfl rfl rfl rfl (Nat.le_of_ble_eq_true rfl) dX1_include_78 ?_
                    intro r78 hr78
                    exact g_wk (lv0 := [some (.ref (ad Z 30 0)), some (.int a1), some (.ref (ad Z C 0)), some (.int a3), some (.int s5_4), some (.int s20_5), some (.int s20_6), some (.int s20_7), some (.int x30)]) ⟨rfl, rfl, rfl, rfl, rfl, rfl, rfl, rfl, rfl, trivial⟩ (g_end (fun h => h))
              · exact g_wk (lv0 := [some (.ref (ad Z 30 0)), some (.int a1), some (.ref (ad Z C 0)), some (.int a3), some (.int s5_4), some (.int s20_5), some (.int s20_6), some (.int s20_7), some (.int x30)]) ⟨rfl, rfl, rfl, rfl, rfl, rfl, rfl, rfl, rfl, trivial⟩ (g_end (fun h => h))
            · intro c81
              show G _ _ (J Z X 9 c81 mm lm 81 [some (.ref (ad Z 30 0)), some (.int a1), some (.ref (ad Z C 0)), some (.int a3), some (.int s5_4), some (.int s20_5), some (.int s20_6), some (.int s20_7), some (.int x30)] [])
              refine g_iload hX dX1_include_81 rfl ?_
              refine g_bipush hX dX1_include_83 bp_6 ?_
              refine g_idiv' hX dX1_include_85 ?_
              intro x85 hx85
              refine g_istore hX dX1_include_86 (Nat.le_of_ble_eq_true rfl) rfl ?_
              refine g_iload hX dX1_include_88 rfl ?_
              refine g_bipush hX dX1_include_90 bp_6 ?_
              refine g_imul hX dX1_include_92 ?_
              refine g_istore hX dX1_include_93 (Nat.le_of_ble_eq_true rfl) rfl ?_
              refine g_iinc hX dX1_include_95 ic_1 rfl (Nat.le_of_ble_eq_true rfl) rfl ?_
              refine g_goto hX dX1_include_98 ?_
              exact g_wk (lv0 := [some (.ref (ad Z 30 0)), some (.int a1), some (.ref (ad Z C 0)), some (.int a3), some (.int s5_4), some (.int x85), some (.int (s20_6 * 6)), some (.int (s20_7 + 1)), none]) ⟨rfl, rfl, rfl, rfl, rfl, rfl, rfl, rfl, trivial⟩ (g_end (fun h => h))
        · rintro ⟨s20_5, s20_6, s20_7, c20_⟩
          show G _ _ (J Z X 9 c20_ mm lm 101 [some (.ref (ad Z 30 0)), some (.int a1), some (.ref (ad Z C 0)), some (.int a3), some (.int s5_4), some (.int s20_5), some (.int s20_6), some (.int s20_7), none] [])
          refine g_iinc hX dX1_include_101 ic_m1 rfl (Nat.le_of_ble_eq_true rfl) rfl ?_
          refine g_goto hX dX1_include_104 ?_
          exact g_wk (lv0 := [some (.ref (ad Z 30 0)), some (.int a1), some (.ref (ad Z C 0)), some (.int a3), some (.int (s5_4 + (-1))), none, none, none, none]) ⟨rfl, rfl, rfl, rfl, rfl, trivial⟩ (g_end (fun h => h))
    · rintro ⟨s5_4, c5_⟩
      show G _ _ (J Z X 9 c5_ mm lm 107 [some (.ref (ad Z 30 0)), some (.int a1), some (.ref (ad Z C 0)), some (.int a3), some (.int s5_4), none, none, none, none] [])
      exact g_vret hX (fun h => h) dX1_include_107
  exact g r h hF

def f_X1_count_B20 (o : Nat) (C : Nat) (a3 : Int32) (s20_4 : Int32) (c20_ : CM) : Option ((Int32 × CM) ⊕ (Int32 × CM)) :=
  (f_X3_people c20_ o).bind fun x23 =>
  if x23 ≤ s20_4 then
    some (.inl (s20_4, c20_))
  else
    (f_X0_isTaken c20_ C s20_4 a3).bind fun x33 =>
    if x33 = 0 then
      some (.inr (s20_4 + 1, c20_))
    else
      (f_X3_get c20_ o 48 s20_4).bind fun x45 =>
      (f_X1_include c20_ C x45 a3).bind fun r50 =>
      some (.inr (s20_4 + 1, r50))

def f_X1_count_B73 (r62 : Int32 × CM) (s73_5 : Int64) (s73_7 : Int32) : Option ((Int64 × Int32) ⊕ (Int64 × Int32)) :=
  if 1296 ≤ s73_7 then
    some (.inl (s73_5, s73_7))
  else
    (f_X1_sumOfDigits s73_7).bind fun x83 =>
    if x83 = r62.1 then
      (f_X4_get r62.2 30 1 1296 s73_7).bind fun x99 =>
      some (.inr (s73_5 + ((x99 : Int32).toInt64), s73_7 + 1))
    else
      some (.inr (s73_5, s73_7 + 1))

def f_X1_count (cm : CM) (o C : Nat) (a3 : Int32) : Option (Int64 × CM) :=
  (f_X4_fill cm 30 1 1296 0).bind fun r5 =>
  (f_X4_set r5 30 1 1296 0 1).bind fun r14 =>
  (itr (fun s : Int32 × CM => f_X1_count_B20 o C a3 s.1 s.2) 2000 (0, r14)).bind fun (s20_4, c20_) =>
  (f_X0_fillOf c20_ C o a3).bind fun r62 =>
  (itr (fun s : Int64 × Int32 => f_X1_count_B73 r62 s.1 s.2) 2000 ((0 : Int64), 0)).bind fun (s73_5, s73_7) =>
  some (s73_5, r62.2)

abbrev rm_X1_count : Room := { frames := 5, cells := 0, slots := 0, locals := 113 }
set_option maxHeartbeats 2000000 in
set_option maxRecDepth 20000 in
theorem c_X1_count {Z : ZC} {cm : CM} {mm : MM} {lm : LM} {o C : Nat} {a3 : Int32} {r : Int64 × CM} (hO : isOf o) (hC : isCh C) (h : f_X1_count cm o C a3 = some r) : Ct Z yX1_count cX1_count 8 (some .long) rm_X1_count [.ref (ad Z 30 0), .ref (ad Z o 0), .ref (ad Z C 0), .int a3] cm mm lm (some (.long r.1)) r.2 mm lm := by
  refine Ct_of (own := RX1) [some (.ref (ad Z 30 0)), some (.ref (ad Z o 0)), some (.ref (ad Z C 0)), some (.int a3), none, none, none, none] ⟨by decide, rfl⟩ rfl (Nat.le_of_ble_eq_true rfl) rfl (fun X hX hF => ?_)
  have g : G (fun r : Int64 × CM => Fx Z X (some .long) (some (.long r.1)) r.2 mm lm) (f_X1_count cm o C a3) (J Z X 8 cm mm lm 0 [some (.ref (ad Z 30 0)), some (.ref (ad Z o 0)), some (.ref (ad Z C 0)), some (.int a3), none, none, none, none] []) := by
    unfold f_X1_count
    refine g_aload_n hX dX1_count_0 rfl rfl ?_
    refine g_get hX fi_1_16 p1_0 e1_0 rfl dX1_count_1 ?_
    refine g_iconst hX dX1_count_4 ic_0 ?_
    refine g_callV hX (As := [.int 0]) (fun _ => none) (fun r => r) (fun _ => mm) (fun _ => lm) (fun r hr => c_X4_fill rw1_1 hr) mi_X4_fill ml_1_20 rw1_1.1 (eR_0 rw1_1) rfl rfl rfl rfl rfl (Nat.le_of_ble_eq_true rfl) dX1_count_5 ?_
    intro r5 hr5
    refine g_aload_n hX dX1_count_8 rfl rfl ?_
    refine g_get hX fi_1_16 p1_0 e1_0 rfl dX1_count_9 ?_
    refine g_iconst hX dX1_count_12 ic_0 ?_
    refine g_iconst hX dX1_count_13 ic_1 ?_
    refine g_callV hX (As := [.int 0, .int 1]) (fun _ => none) (fun r => r) (fun _ => mm) (fun _ => lm) (fun r hr => c_X4_set rw1_1 hr) mi_X4_set ml_1_23 rw1_1.1 (eR_0 rw1_1) rfl rfl rfl rfl rfl (Nat.le_of_ble_eq_true rfl) dX1_count_14 ?_
    intro r14 hr14
    refine g_iconst hX dX1_count_17 ic_0 ?_
    refine g_istore hX dX1_count_18 (Nat.le_of_ble_eq_true rfl) rfl ?_
    refine g_loop (Hd := fun s : Int32 × CM => J Z X 8 s.2 mm lm 20 [some (.ref (ad Z 30 0)), some (.ref (ad Z o 0)), some (.ref (ad Z C 0)), some (.int a3), some (.int s.1), none, none, none] []) (Ex := fun s : Int32 × CM => J Z X 8 s.2 mm lm 59 [some (.ref (ad Z 30 0)), some (.ref (ad Z o 0)), some (.ref (ad Z C 0)), some (.int a3), some (.int s.1), none, none, none] []) ?_ ?_
    · rintro ⟨s20_4, c20_⟩
      show G _ (f_X1_count_B20 o C a3 s20_4 c20_) (J Z X 8 c20_ mm lm 20 [some (.ref (ad Z 30 0)), some (.ref (ad Z o 0)), some (.ref (ad Z C 0)), some (.int a3), some (.int s20_4), none, none, none] [])
      unfold f_X1_count_B20
      refine g_iload hX dX1_count_20 rfl ?_
      refine g_aload_n hX dX1_count_22 rfl rfl ?_
      refine g_callV hX (As := []) (fun r => (some (.int r))) (fun _ => c20_) (fun _ => mm) (fun _ => lm) (fun r hr => c_X3_people hO hr) mi_X3_people ml_1_27 (okO hO (by decide)) (e3_0 hO) rfl rfl rfl rfl rfl (Nat.le_of_ble_eq_true rfl) dX1_count_23 ?_
      intro x23 hx23
      refine g_icmp_ge hX dX1_count_26 (fun h26 => ?_) (fun h26 => ?_)
      · exact g_wk (lv0 := [some (.ref (ad Z 30 0)), some (.ref (ad Z o 0)), some (.ref (ad Z C 0)), some (.int a3), some (.int s20_4), none, none, none]) ⟨rfl, rfl, rfl, rfl, rfl, trivial⟩ (g_end (fun h => h))
      · refine g_aload_n hX dX1_count_29 rfl rfl ?_
        refine g_iload hX dX1_count_30 rfl ?_
        refine g_iload_n hX dX1_count_32 rfl rfl ?_
        refine g_callV hX (As := [.int s20_4, .int a3]) (fun r => (some (.int r))) (fun _ => c20_) (fun _ => mm) (fun _ => lm) (fun r hr => c_X0_isTaken hC hr) mi_X0_isTaken ml_1_33 (okC hC (by decide)) (e0_0 hC) rfl rfl rfl rfl rfl (Nat.le_of_ble_eq_true rfl) dX1_count_33 ?_
        intro x33 hx33
        refine g_if_eq hX dX1_count_36 (fun h36 => ?_) (fun h36 => ?_)
        · refine g_iinc hX dX1_count_53 ic_1 rfl (Nat.le_of_ble_eq_true rfl) rfl ?_
          refine g_goto hX dX1_count_56 ?_
          exact g_wk (lv0 := [some (.ref (ad Z 30 0)), some (.ref (ad Z o 0)), some (.ref (ad Z C 0)), some (.int a3), some (.int (s20_4 + 1)), none, none, none]) ⟨rfl, rfl, rfl, rfl, rfl, trivial⟩ (g_end (fun h => h))
        · refine g_aload_n hX dX1_count_39 rfl rfl ?_
          refine g_aload_n hX dX1_count_40 rfl rfl ?_
          refine g_bipush hX dX1_count_41 bp_48 ?_
          refine g_iload hX dX1_count_43 rfl ?_
          refine g_callV hX (As := [.int 48, .int s20_4]) (fun r => (some (.int r))) (fun _ => c20_) (fun _ => mm) (fun _ => lm) (fun r hr => c_X3_get hO hr) mi_X3_get ml_1_39 (okO hO (by decide)) (e3_0 hO) rfl rfl rfl rfl rfl (Nat.le_of_ble_eq_true rfl) dX1_count_45 ?_
          intro x45 hx45
          refine g_aload_n hX dX1_count_48 rfl rfl ?_
          refine g_iload_n hX dX1_count_49 rfl rfl ?_
          refine g_callV hX (As := [.int x45, .ref (ad Z C 0), .int a3]) (fun _ => none) (fun r => r) (fun _ => mm) (fun _ => lm) (fun r hr => c_X1_include hC hr) mi_X1_include ml_1_43 p1_0 e1_0 rfl rfl rfl rfl rfl (Nat.le_of_ble_eq_true rfl) dX1_count_50 ?_
          intro r50 hr50
          refine g_iinc hX dX1_count_53 ic_1 rfl (Nat.le_of_ble_eq_true rfl) rfl ?_
          refine g_goto hX dX1_count_56 ?_
          exact g_wk (lv0 := [some (.ref (ad Z 30 0)), some (.ref (ad Z o 0)), some (.ref (ad Z C 0)), some (.int a3), some (.int (s20_4 + 1)), none, none, none]) ⟨rfl, rfl, rfl, rfl, rfl, trivial⟩ (g_end (fun h => h))
    · rintro ⟨s20_4, c20_⟩
      show G _ _ (J Z X 8 c20_ mm lm 59 [some (.ref (ad Z 30 0)), some (.ref (ad Z o 0)), some (.ref (ad Z C 0)), some (.int a3), some (.int s20_4), none, none, none] [])
      refine g_aload_n hX dX1_count_59 rfl rfl ?_
      refine g_aload_n hX dX1_count_60 rfl rfl ?_
      refine g_iload_n hX dX1_count_61 rfl rfl ?_
      refine g_callV hX (As := [.ref (ad Z o 0), .int a3]) (fun r => (some (.int r.1))) (fun r => r.2) (fun _ => mm) (fun _ => lm) (fun r hr => c_X0_fillOf hC hO hr) mi_X0_fillOf ml_1_47 (okC hC (by decide)) (e0_0 hC) rfl rfl rfl rfl rfl (Nat.le_of_ble_eq_true rfl) dX1_count_62 ?_
      intro r62 hr62
      refine g_istore hX dX1_count_65 (Nat.le_of_ble_eq_true rfl) rfl ?_
      refine g_lconst (v := 0) hX dX1_count_67 rfl ?_
      refine g_lstore hX dX1_count_68 (Nat.le_of_ble_eq_true rfl) rfl ?_
      refine g_iconst hX dX1_count_70 ic_0 ?_
      refine g_istore hX dX1_count_71 (Nat.le_of_ble_eq_true rfl) rfl ?_
      refine g_loop (Hd := fun s : Int64 × Int32 => J Z X 8 r62.2 mm lm 73 [some (.ref (ad Z 30 0)), some (.ref (ad Z o 0)), some (.ref (ad Z C 0)), some (.int a3), some (.int r62.1), some (.long s.1), none, some (.int s.2)] []) (Ex := fun s : Int64 × Int32 => J Z X 8 r62.2 mm lm 112 [some (.ref (ad Z 30 0)), some (.ref (ad Z o 0)), some (.ref (ad Z C 0)), some (.int a3), some (.int r62.1), some (.long s.1), none, some (.int s.2)] []) ?_ ?_
      · rintro ⟨s73_5, s73_7⟩
        show G _ (f_X1_count_B73 r62 s73_5 s73_7) (J Z X 8 r62.2 mm lm 73 [some (.ref (ad Z 30 0)), some (.ref (ad Z o 0)), some (.ref (ad Z C 0)), some (.int a3), some (.int r62.1), some (.long s73_5), none, some (.int s73_7)] [])
        unfold f_X1_count_B73
        refine g_iload hX dX1_count_73 rfl ?_
        refine g_sipush hX dX1_count_75 sp_1296 ?_
        refine g_icmp_ge hX dX1_count_78 (fun h78 => ?_) (fun h78 => ?_)
        · exact g_wk (lv0 := [some (.ref (ad Z 30 0)), some (.ref (ad Z o 0)), some (.ref (ad Z C 0)), some (.int a3), some (.int r62.1), some (.long s73_5), none, some (.int s73_7)]) ⟨rfl, rfl, rfl, rfl, rfl, rfl, rfl, trivial⟩ (g_end (fun h => h))
        · refine g_iload hX dX1_count_81 rfl ?_
          refine g_callS hX (As := [.int s73_7]) (fun r => (some (.int r))) (fun _ => r62.2) (fun _ => mm) (fun _ => lm) (fun r hr => c_X1_sumOfDigits  hr) mi_X1_sumOfDigits ml_1_51 rfl rfl rfl (Nat.le_of_ble_eq_true rfl) dX1_count_83 ?_
          intro x83 hx83
          refine g_iload hX dX1_count_86 rfl ?_
          refine g_icmp_ne hX dX1_count_88 (fun h88 => ?_) (fun h88 => ?_)
          · refine g_lload hX dX1_count_91 rfl ?_
            refine g_aload_n hX dX1_count_93 rfl rfl ?_
            refine g_get hX fi_1_16 p1_0 e1_0 rfl dX1_count_94 ?_
            refine g_iload hX dX1_count_97 rfl ?_
            refine g_callV hX (As := [.int s73_7]) (fun r => (some (.int r))) (fun _ => r62.2) (fun _ => mm) (fun _ => lm) (fun r hr => c_X4_get rw1_1 hr) mi_X4_get ml_1_55 rw1_1.1 (eR_0 rw1_1) rfl rfl rfl rfl rfl (Nat.le_of_ble_eq_true rfl) dX1_count_99 ?_
            intro x99 hx99
            refine g_i2l hX dX1_count_102 ?_
            refine g_ladd hX dX1_count_103 ?_
            refine g_lstore hX dX1_count_104 (Nat.le_of_ble_eq_true rfl) rfl ?_
            refine g_iinc hX dX1_count_106 ic_1 rfl (Nat.le_of_ble_eq_true rfl) rfl ?_
            refine g_goto hX dX1_count_109 ?_
            exact g_wk (lv0 := [some (.ref (ad Z 30 0)), some (.ref (ad Z o 0)), some (.ref (ad Z C 0)), some (.int a3), some (.int r62.1), some (.long (s73_5 + ((x99 : Int32).toInt64))), none, some (.int (s73_7 + 1))]) ⟨rfl, rfl, rfl, rfl, rfl, rfl, rfl, trivial⟩ (g_end (fun h => h))
          · refine g_iinc hX dX1_count_106 ic_1 rfl (Nat.le_of_ble_eq_true rfl) rfl ?_
            refine g_goto hX dX1_count_109 ?_
            exact g_wk (lv0 := [some (.ref (ad Z 30 0)), some (.ref (ad Z o 0)), some (.ref (ad Z C 0)), some (.int a3), some (.int r62.1), some (.long s73_5), none, some (.int (s73_7 + 1))]) ⟨rfl, rfl, rfl, rfl, rfl, rfl, rfl, trivial⟩ (g_end (fun h => h))
      · rintro ⟨s73_5, s73_7⟩
        show G _ _ (J Z X 8 r62.2 mm lm 112 [some (.ref (ad Z 30 0)), some (.ref (ad Z o 0)), some (.ref (ad Z C 0)), some (.int a3), some (.int r62.1), some (.long s73_5), none, some (.int s73_7)] [])
        refine g_lload hX dX1_count_112 rfl ?_
        exact g_lret hX (fun h => h) dX1_count_114
  exact g r h hF
