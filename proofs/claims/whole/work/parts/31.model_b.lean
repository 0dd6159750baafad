def f_X7_isTakenIn (mm : MM) (a1 a2 : Int32) : Option (Int32) :=
  (rd 16 (mm 8) a1).bind fun x5 =>
  if x5 = a2 then
    (rd 16 (mm 10) a1).bind fun x15 =>
    if x15 = 0 then
      some 1
    else
      some 0
  else
    some 0

abbrev rm_X7_isTakenIn : Room := { frames := 0, cells := 0, slots := 0, locals := 0 }
set_option maxHeartbeats 2000000 in
set_option maxRecDepth 20000 in
theorem c_X7_isTakenIn {Z : ZC} {cm : CM} {mm : MM} {lm : LM} {a1 a2 : Int32} {r : Int32}  (h : f_X7_isTakenIn mm a1 a2 = some r) : Ct Z yX7_isTakenIn cX7_isTakenIn 3 (some .boolean) rm_X7_isTakenIn [.ref (ad Z 32 0), .int a1, .int a2] cm mm lm (some (.int r)) cm mm lm := by
  refine Ct_of (own := RX7) [some (.ref (ad Z 32 0)), some (.int a1), some (.int a2)] ⟨by decide, rfl⟩ rfl (Nat.le_of_ble_eq_true rfl) rfl (fun X hX hF => ?_)
  have g : G (fun r : Int32 => Fx Z X (some .boolean) (some (.int r)) cm mm lm) (f_X7_isTakenIn mm a1 a2) (J Z X 3 cm mm lm 0 [some (.ref (ad Z 32 0)), some (.int a1), some (.int a2)] []) := by
    unfold f_X7_isTakenIn
    refine g_aload_n hX dX7_isTakenIn_0 rfl rfl ?_
    refine g_get hX fi_7_31 p7_0 e7_0 rfl dX7_isTakenIn_1 ?_
    refine g_iload_n hX dX7_isTakenIn_4 rfl rfl ?_
    refine g_iald hX p7_8 e7_8 dX7_isTakenIn_5 ?_
    intro x5 hx5
    refine g_iload_n hX dX7_isTakenIn_6 rfl rfl ?_
    refine g_icmp_ne hX dX7_isTakenIn_7 (fun h7 => ?_) (fun h7 => ?_)
    · refine g_aload_n hX dX7_isTakenIn_10 rfl rfl ?_
      refine g_get hX fi_7_37 p7_0 e7_0 rfl dX7_isTakenIn_11 ?_
      refine g_iload_n hX dX7_isTakenIn_14 rfl rfl ?_
      refine g_zald hX p7_10 e7_10 dX7_isTakenIn_15 ?_
      intro x15 hx15
      refine g_if_ne hX dX7_isTakenIn_16 (fun h16 => ?_) (fun h16 => ?_)
      · refine g_iconst hX dX7_isTakenIn_19 ic_1 ?_
        refine g_goto hX dX7_isTakenIn_20 ?_
        exact g_zret hX (by decide) (fun h => h) dX7_isTakenIn_24
      · refine g_iconst hX dX7_isTakenIn_23 ic_0 ?_
        exact g_zret hX (by decide) (fun h => h) dX7_isTakenIn_24
    · refine g_iconst hX dX7_isTakenIn_23 ic_0 ?_
      exact g_zret hX (by decide) (fun h => h) dX7_isTakenIn_24
  exact g r h hF

def f_X7_countIn_B15 (a1 : Int32) (s15_2 : Int32) (m15_ : MM) : Option ((Int32 × MM) ⊕ (Int32 × MM)) :=
  (rd 159 (m15_ 1) 157).bind fun x23 =>
  if x23 ≤ s15_2 then
    some (.inl (s15_2, m15_))
  else
    (rd 16 (m15_ 3) s15_2).bind fun x33 =>
    (f_X7_isTakenIn m15_ x33 a1).bind fun x35 =>
    if x35 = 0 then
      some (.inr (s15_2 + 1, m15_))
    else
      (rd 16 (m15_ 3) s15_2).bind fun x47 =>
      (f_X7_addOther m15_ x47 1).bind fun r49 =>
      some (.inr (s15_2 + 1, r49))

def f_X7_countIn_B67 (a1 : Int32) (s67_2 : Int32) (s67_3 : Int32) (m67_ : MM) : Option ((Int32 × Int32 × MM) ⊕ (Int32 × Int32 × MM)) :=
  (rd 159 (m67_ 1) 157).bind fun x75 =>
  if x75 ≤ s67_3 then
    some (.inl (s67_2, s67_3, m67_))
  else
    (rd 16 (m67_ 3) s67_3).bind fun x84 =>
    (f_X7_isTakenIn m67_ x84 a1).bind fun x91 =>
    if x91 = 0 then
      some (.inr (s67_2, s67_3 + 1, m67_))
    else
      (f_X7_addOther m67_ x84 (-1)).bind fun r101 =>
      (f_X7_firstGroup r101 x84 (s67_2 - 1)).bind fun r116 =>
      (wr 16 (r116.2 9) x84 r116.1).bind fun g119 =>
      (rd 16 ((u2 r116.2 9 g119) 9) x84).bind fun x127 =>
      if x127 = (-9) then
        some (.inr (s67_2 - 0, s67_3 + 1, u2 r116.2 9 g119))
      else
        some (.inr (s67_2 - 1, s67_3 + 1, u2 r116.2 9 g119))

def f_X7_countIn (mm : MM) (a1 : Int32) : Option (MM) :=
  (f_X7_leaveAll mm a1).bind fun r2 =>
  (f_X7_sumHave r2).bind fun r6 =>
  (f_X7_noOthers r6).bind fun r10 =>
  (itr (fun s : Int32 × MM => f_X7_countIn_B15 a1 s.1 s.2) 2000 (0, r10)).bind fun (s15_2, m15_) =>
  (f_X7_leastCut m15_ (-9)).bind fun x61 =>
  (itr (fun s : Int32 × Int32 × MM => f_X7_countIn_B67 a1 s.1 s.2.1 s.2.2) 2000 (x61, 0, m15_)).bind fun (s67_2, s67_3, m67_) =>
  some m67_

abbrev rm_X7_countIn : Room := { frames := 3, cells := 0, slots := 0, locals := 66 }
set_option maxHeartbeats 2000000 in
set_option maxRecDepth 20000 in
theorem c_X7_countIn {Z : ZC} {cm : CM} {mm : MM} {lm : LM} {a1 : Int32} {r : MM}  (h : f_X7_countIn mm a1 = some r) : Ct Z yX7_countIn cX7_countIn 5 none rm_X7_countIn [.ref (ad Z 32 0), .int a1] cm mm lm none cm r lm := by
  refine Ct_of (own := RX7) [some (.ref (ad Z 32 0)), some (.int a1), none, none, none] ⟨by decide, rfl⟩ rfl (Nat.le_of_ble_eq_true rfl) rfl (fun X hX hF => ?_)
  have g : G (fun r : MM => Fx Z X none none cm r lm) (f_X7_countIn mm a1) (J Z X 5 cm mm lm 0 [some (.ref (ad Z 32 0)), some (.int a1), none, none, none] []) := by
    unfold f_X7_countIn
    refine g_aload_n hX dX7_countIn_0 rfl rfl ?_
    refine g_iload_n hX dX7_countIn_1 rfl rfl ?_
    refine g_callV hX (As := [.int a1]) (fun _ => none) (fun _ => cm) (fun r => r) (fun _ => lm) (fun r hr => c_X7_leaveAll  hr) mi_X7_leaveAll ml_7_132 p7_0 e7_0 rfl rfl rfl rfl rfl (Nat.le_of_ble_eq_true rfl) dX7_countIn_2 ?_
    intro r2 hr2
    refine g_aload_n hX dX7_countIn_5 rfl rfl ?_
    refine g_callV hX (As := []) (fun _ => none) (fun _ => cm) (fun r => r) (fun _ => lm) (fun r hr => c_X7_sumHave  hr) mi_X7_sumHave ml_7_135 p7_0 e7_0 rfl rfl rfl rfl rfl (Nat.le_of_ble_eq_true rfl) dX7_countIn_6 ?_
    intro r6 hr6
    refine g_aload_n hX dX7_countIn_9 rfl rfl ?_
    refine g_callV hX (As := []) (fun _ => none) (fun _ => cm) (fun r => r) (fun _ => lm) (fun r hr => c_X7_noOthers  hr) mi_X7_noOthers ml_7_138 p7_0 e7_0 rfl rfl rfl rfl rfl (Nat.le_of_ble_eq_true rfl) dX7_countIn_10 ?_
    intro r10 hr10
    refine g_iconst hX dX7_countIn_13 ic_0 ?_
    refine g_istore_n hX dX7_countIn_14 rfl (Nat.le_of_ble_eq_true rfl) rfl ?_
    refine g_loop (Hd := fun s : Int32 × MM => J Z X 5 cm s.2 lm 15 [some (.ref (ad Z 32 0)), some (.int a1), some (.int s.1), none, none] []) (Ex := fun s : Int32 × MM => J Z X 5 cm s.2 lm 58 [some (.ref (ad Z 32 0)), some (.int a1), some (.int s.1), none, none] []) ?_ ?_
    · rintro ⟨s15_2, m15_⟩
      show G _ (f_X7_countIn_B15 a1 s15_2 m15_) (J Z X 5 cm m15_ lm 15 [some (.ref (ad Z 32 0)), some (.int a1), some (.int s15_2), none, none] [])
      unfold f_X7_countIn_B15
      refine g_iload_n hX dX7_countIn_15 rfl rfl ?_
      refine g_aload_n hX dX7_countIn_16 rfl rfl ?_
      refine g_get hX fi_7_7 p7_0 e7_0 rfl dX7_countIn_17 ?_
      refine g_sipush hX dX7_countIn_20 sp_157 ?_
      refine g_iald hX p7_1 e7_1 dX7_countIn_23 ?_
      intro x23 hx23
      refine g_icmp_ge hX dX7_countIn_24 (fun h24 => ?_) (fun h24 => ?_)
      · exact g_wk (lv0 := [some (.ref (ad Z 32 0)), some (.int a1), some (.int s15_2), none, none]) ⟨rfl, rfl, rfl, trivial⟩ (g_end (fun h => h))
      · refine g_aload_n hX dX7_countIn_27 rfl rfl ?_
        refine g_aload_n hX dX7_countIn_28 rfl rfl ?_
        refine g_get hX fi_7_16 p7_0 e7_0 rfl dX7_countIn_29 ?_
        refine g_iload_n hX dX7_countIn_32 rfl rfl ?_
        refine g_iald hX p7_3 e7_3 dX7_countIn_33 ?_
        intro x33 hx33
        refine g_iload_n hX dX7_countIn_34 rfl rfl ?_
        refine g_callV hX (As := [.int x33, .int a1]) (fun r => (some (.int r))) (fun _ => cm) (fun _ => m15_) (fun _ => lm) (fun r hr => c_X7_isTakenIn  hr) mi_X7_isTakenIn ml_7_163 p7_0 e7_0 rfl rfl rfl rfl rfl (Nat.le_of_ble_eq_true rfl) dX7_countIn_35 ?_
        intro x35 hx35
        refine g_if_eq hX dX7_countIn_38 (fun h38 => ?_) (fun h38 => ?_)
        · refine g_iinc hX dX7_countIn_52 ic_1 rfl (Nat.le_of_ble_eq_true rfl) rfl ?_
          refine g_goto hX dX7_countIn_55 ?_
          exact g_wk (lv0 := [some (.ref (ad Z 32 0)), some (.int a1), some (.int (s15_2 + 1)), none, none]) ⟨rfl, rfl, rfl, trivial⟩ (g_end (fun h => h))
        · refine g_aload_n hX dX7_countIn_41 rfl rfl ?_
          refine g_aload_n hX dX7_countIn_42 rfl rfl ?_
          refine g_get hX fi_7_16 p7_0 e7_0 rfl dX7_countIn_43 ?_
          refine g_iload_n hX dX7_countIn_46 rfl rfl ?_
          refine g_iald hX p7_3 e7_3 dX7_countIn_47 ?_
          intro x47 hx47
          refine g_iconst hX dX7_countIn_48 ic_1 ?_
          refine g_callV hX (As := [.int x47, .int 1]) (fun _ => none) (fun _ => cm) (fun r => r) (fun _ => lm) (fun r hr => c_X7_addOther  hr) mi_X7_addOther ml_7_147 p7_0 e7_0 rfl rfl rfl rfl rfl (Nat.le_of_ble_eq_true rfl) dX7_countIn_49 ?_
          intro r49 hr49
          refine g_iinc hX dX7_countIn_52 ic_1 rfl (Nat.le_of_ble_eq_true rfl) rfl ?_
          refine g_goto hX dX7_countIn_55 ?_
          exact g_wk (lv0 := [some (.ref (ad Z 32 0)), some (.int a1), some (.int (s15_2 + 1)), none, none]) ⟨rfl, rfl, rfl, trivial⟩ (g_end (fun h => h))
    · rintro ⟨s15_2, m15_⟩
      show G _ _ (J Z X 5 cm m15_ lm 58 [some (.ref (ad Z 32 0)), some (.int a1), some (.int s15_2), none, none] [])
      refine g_aload_n hX dX7_countIn_58 rfl rfl ?_
      refine g_bipush hX dX7_countIn_59 bp_m9 ?_
      refine g_callV hX (As := [.int (-9)]) (fun r => (some (.int r))) (fun _ => cm) (fun _ => m15_) (fun _ => lm) (fun r hr => c_X7_leastCut  hr) mi_X7_leastCut ml_7_144 p7_0 e7_0 rfl rfl rfl rfl rfl (Nat.le_of_ble_eq_true rfl) dX7_countIn_61 ?_
      intro x61 hx61
      refine g_istore_n hX dX7_countIn_64 rfl (Nat.le_of_ble_eq_true rfl) rfl ?_
      refine g_iconst hX dX7_countIn_65 ic_0 ?_
      refine g_istore_n hX dX7_countIn_66 rfl (Nat.le_of_ble_eq_true rfl) rfl ?_
      refine g_loop (Hd := fun s : Int32 × Int32 × MM => J Z X 5 cm s.2.2 lm 67 [some (.ref (ad Z 32 0)), some (.int a1), some (.int s.1), some (.int s.2.1), none] []) (Ex := fun s : Int32 × Int32 × MM => J Z X 5 cm s.2.2 lm 146 [some (.ref (ad Z 32 0)), some (.int a1), some (.int s.1), some (.int s.2.1), none] []) ?_ ?_
      · rintro ⟨s67_2, s67_3, m67_⟩
        show G _ (f_X7_countIn_B67 a1 s67_2 s67_3 m67_) (J Z X 5 cm m67_ lm 67 [some (.ref (ad Z 32 0)), some (.int a1), some (.int s67_2), some (.int s67_3), none] [])
        unfold f_X7_countIn_B67
        refine g_iload_n hX dX7_countIn_67 rfl rfl ?_
        refine g_aload_n hX dX7_countIn_68 rfl rfl ?_
        refine g_get hX fi_7_7 p7_0 e7_0 rfl dX7_countIn_69 ?_
        refine g_sipush hX dX7_countIn_72 sp_157 ?_
        refine g_iald hX p7_1 e7_1 dX7_countIn_75 ?_
        intro x75 hx75
        refine g_icmp_ge hX dX7_countIn_76 (fun h76 => ?_) (fun h76 => ?_)
        · exact g_wk (lv0 := [some (.ref (ad Z 32 0)), some (.int a1), some (.int s67_2), some (.int s67_3), none]) ⟨rfl, rfl, rfl, rfl, trivial⟩ (g_end (fun h => h))
        · refine g_aload_n hX dX7_countIn_79 rfl rfl ?_
          refine g_get hX fi_7_16 p7_0 e7_0 rfl dX7_countIn_80 ?_
          refine g_iload_n hX dX7_countIn_83 rfl rfl ?_
          refine g_iald hX p7_3 e7_3 dX7_countIn_84 ?_
          intro x84 hx84
          refine g_istore hX dX7_countIn_85 (Nat.le_of_ble_eq_true rfl) rfl ?_
          refine g_aload_n hX dX7_countIn_87 rfl rfl ?_
          refine g_iload hX dX7_countIn_88 rfl ?_
          refine g_iload_n hX dX7_countIn_90 rfl rfl ?_
          refine g_callV hX (As := [.int x84, .int a1]) (fun r => (some (.int r))) (fun _ => cm) (fun _ => m67_) (fun _ => lm) (fun r hr => c_X7_isTakenIn  hr) mi_X7_isTakenIn ml_7_163 p7_0 e7_0 rfl rfl rfl rfl rfl (Nat.le_of_ble_eq_true rfl) dX7_countIn_91 ?_
          intro x91 hx91
          refine g_if_eq hX dX7_countIn_94 (fun h94 => ?_) (fun h94 => ?_)
          · refine g_iinc hX dX7_countIn_140 ic_1 rfl (Nat.le_of_ble_eq_true rfl) rfl ?_
            refine g_goto hX dX7_countIn_143 ?_
            exact g_wk (lv0 := [some (.ref (ad Z 32 0)), some (.int a1), some (.int s67_2), some (.int (s67_3 + 1)), none]) ⟨rfl, rfl, rfl, rfl, trivial⟩ (g_end (fun h => h))
          · refine g_aload_n hX dX7_countIn_97 rfl rfl ?_
            refine g_iload hX dX7_countIn_98 rfl ?_
            refine g_iconst hX dX7_countIn_100 ic_m1 ?_
            refine g_callV hX (As := [.int x84, .int (-1)]) (fun _ => none) (fun _ => cm) (fun r => r) (fun _ => lm) (fun r hr => c_X7_addOther  hr) mi_X7_addOther ml_7_147 p7_0 e7_0 rfl rfl rfl rfl rfl (Nat.le_of_ble_eq_true rfl) dX7_countIn_101 ?_
            intro r101 hr101
            refine g_aload_n hX dX7_countIn_104 rfl rfl ?_
            refine g_get hX fi_7_34 p7_0 e7_0 rfl dX7_countIn_105 ?_
            refine g_iload hX dX7_countIn_108 rfl ?_
            refine g_aload_n hX dX7_countIn_110 rfl rfl ?_
            refine g_iload hX dX7_countIn_111 rfl ?_
            refine g_iload_n hX dX7_countIn_113 rfl rfl ?_
            refine g_iconst hX dX7_countIn_114 ic_1 ?_
            refine g_isub hX dX7_countIn_115 ?_
            refine g_callV hX (As := [.int x84, .int (s67_2 - 1)]) (fun r => (some (.int r.1))) (fun _ => cm) (fun r => r.2) (fun _ => lm) (fun r hr => c_X7_firstGroup  hr) mi_X7_firstGroup ml_7_166 p7_0 e7_0 rfl rfl rfl rfl rfl (Nat.le_of_ble_eq_true rfl) dX7_countIn_116 ?_
            intro r116 hr116
            refine g_iastM hX p7_9 (s7_9 Z _) dX7_countIn_119 ?_
            intro g119 hg119
            refine g_iload_n hX dX7_countIn_120 rfl rfl ?_
            refine g_aload_n hX dX7_countIn_121 rfl rfl ?_
            refine g_get hX fi_7_34 p7_0 e7_0 rfl dX7_countIn_122 ?_
            refine g_iload hX dX7_countIn_125 rfl ?_
            refine g_iald hX p7_9 e7_9 dX7_countIn_127 ?_
            intro x127 hx127
            refine g_bipush hX dX7_countIn_128 bp_m9 ?_
            refine g_icmp_ne hX dX7_countIn_130 (fun h130 => ?_) (fun h130 => ?_)
            · refine g_iconst hX dX7_countIn_133 ic_0 ?_
              refine g_goto hX dX7_countIn_134 ?_
              refine g_isub hX dX7_countIn_138 ?_
              refine g_istore_n hX dX7_countIn_139 rfl (Nat.le_of_ble_eq_true rfl) rfl ?_
              refine g_iinc hX dX7_countIn_140 ic_1 rfl (Nat.le_of_ble_eq_true rfl) rfl ?_
              refine g_goto hX dX7_countIn_143 ?_
              exact g_wk (lv0 := [some (.ref (ad Z 32 0)), some (.int a1), some (.int (s67_2 - 0)), some (.int (s67_3 + 1)), none]) ⟨rfl, rfl, rfl, rfl, trivial⟩ (g_end (fun h => h))
            · refine g_iconst hX dX7_countIn_137 ic_1 ?_
              refine g_isub hX dX7_countIn_138 ?_
              refine g_istore_n hX dX7_countIn_139 rfl (Nat.le_of_ble_eq_true rfl) rfl ?_
              refine g_iinc hX dX7_countIn_140 ic_1 rfl (Nat.le_of_ble_eq_true rfl) rfl ?_
              refine g_goto hX dX7_countIn_143 ?_
              exact g_wk (lv0 := [some (.ref (ad Z 32 0)), some (.int a1), some (.int (s67_2 - 1)), some (.int (s67_3 + 1)), none]) ⟨rfl, rfl, rfl, rfl, trivial⟩ (g_end (fun h => h))
      · rintro ⟨s67_2, s67_3, m67_⟩
        show G _ _ (J Z X 5 cm m67_ lm 146 [some (.ref (ad Z 32 0)), some (.int a1), some (.int s67_2), some (.int s67_3), none] [])
        exact g_vret hX (fun h => h) dX7_countIn_146
  exact g r h hF

def f_X7_bestOf_B2 (mm : MM) (a1 : Int32) (s2_2 : Int32) : Option (((Int32) ⊕ (Int32)) ⊕ (Int32)) :=
  (rd 159 (mm 1) 157).bind fun x10 =>
  if x10 ≤ s2_2 then
    some (.inl (.inl s2_2))
  else
    (rd 16 (mm 3) s2_2).bind fun x19 =>
    (f_X7_takesPart mm x19).bind fun x23 =>
    if x23 = 0 then
      some (.inr (s2_2 + 1))
    else
      (rd 16 (mm 8) x19).bind fun x34 =>
      if x34 = (-9) then
        (f_X7_isCandidate mm x19 a1).bind fun x43 =>
        if x43 = 0 then
          some (.inr (s2_2 + 1))
        else
          some (.inl (.inr x19))
      else
        some (.inr (s2_2 + 1))

def f_X7_bestOf (mm : MM) (a1 : Int32) : Option (Int32) :=
  (itr (fun s : Int32 => f_X7_bestOf_B2 mm a1 s) 2000 0).bind fun ou => match ou with
  | .inr r => some r
  | .inl s2_2 =>
  some (-9)

abbrev rm_X7_bestOf : Room := { frames := 2, cells := 0, slots := 0, locals := 44 }
set_option maxHeartbeats 2000000 in
set_option maxRecDepth 20000 in
theorem c_X7_bestOf {Z : ZC} {cm : CM} {mm : MM} {lm : LM} {a1 : Int32} {r : Int32}  (h : f_X7_bestOf mm a1 = some r) : Ct Z yX7_bestOf cX7_bestOf 4 (some .int) rm_X7_bestOf [.ref (ad Z 32 0), .int a1] cm mm lm (some (.int r)) cm mm lm := by
  refine Ct_of (own := RX7) [some (.ref (ad Z 32 0)), some (.int a1), none, none] ⟨by decide, rfl⟩ rfl (Nat.le_of_ble_eq_true rfl) rfl (fun X hX hF => ?_)
  have g : G (fun r : Int32 => Fx Z X (some .int) (some (.int r)) cm mm lm) (f_X7_bestOf mm a1) (J Z X 4 cm mm lm 0 [some (.ref (ad Z 32 0)), some (.int a1), none, none] []) := by
    unfold f_X7_bestOf
    refine g_iconst hX dX7_bestOf_0 ic_0 ?_
    refine g_istore_n hX dX7_bestOf_1 rfl (Nat.le_of_ble_eq_true rfl) rfl ?_
    refine g_loop (Hd := fun s : Int32 => J Z X 4 cm mm lm 2 [some (.ref (ad Z 32 0)), some (.int a1), some (.int s), none] []) (Ex := fun ou : (Int32) ⊕ (Int32) => match ou with | .inl e => J Z X 4 cm mm lm 57 [some (.ref (ad Z 32 0)), some (.int a1), some (.int e), none] [] | .inr r => Fx Z X (some .int) (some (.int r)) cm mm lm) ?_ ?_
    · intro s2_2
      show G _ (f_X7_bestOf_B2 mm a1 s2_2) (J Z X 4 cm mm lm 2 [some (.ref (ad Z 32 0)), some (.int a1), some (.int s2_2), none] [])
      unfold f_X7_bestOf_B2
      refine g_iload_n hX dX7_bestOf_2 rfl rfl ?_
      refine g_aload_n hX dX7_bestOf_3 rfl rfl ?_
      refine g_get hX fi_7_7 p7_0 e7_0 rfl dX7_bestOf_4 ?_
      refine g_sipush hX dX7_bestOf_7 sp_157 ?_
      refine g_iald hX p7_1 e7_1 dX7_bestOf_10 ?_
      intro x10 hx10
      refine g_icmp_ge hX dX7_bestOf_11 (fun h11 => ?_) (fun h11 => ?_)
      · exact g_wk (lv0 := [some (.ref (ad Z 32 0)), some (.int a1), some (.int s2_2), none]) ⟨rfl, rfl, rfl, trivial⟩ (g_end (fun h => h))
      · refine g_aload_n hX dX7_bestOf_14 rfl rfl ?_
        refine g_get hX fi_7_16 p7_0 e7_0 rfl dX7_bestOf_15 ?_
        refine g_iload_n hX dX7_bestOf_18 rfl rfl ?_
        refine g_iald hX p7_3 e7_3 dX7_bestOf_19 ?_
        intro x19 hx19
        refine g_istore_n hX dX7_bestOf_20 rfl (Nat.le_of_ble_eq_true rfl) rfl ?_
        refine g_aload_n hX dX7_bestOf_21 rfl rfl ?_
        refine g_iload_n hX dX7_bestOf_22 rfl rfl ?_
        refine g_callV hX (As := [.int x19]) (fun r => (some (.int r))) (fun _ => cm) (fun _ => mm) (fun _ => lm) (fun r hr => c_X7_takesPart  hr) mi_X7_takesPart ml_7_126 p7_0 e7_0 rfl rfl rfl rfl rfl (Nat.le_of_ble_eq_true rfl) dX7_bestOf_23 ?_
        intro x23 hx23
        refine g_if_eq hX dX7_bestOf_26 (fun h26 => ?_) (fun h26 => ?_)
        · refine g_iinc hX dX7_bestOf_51 ic_1 rfl (Nat.le_of_ble_eq_true rfl) rfl ?_
          refine g_goto hX dX7_bestOf_54 ?_
          exact g_wk (lv0 := [some (.ref (ad Z 32 0)), some (.int a1), some (.int (s2_2 + 1)), none]) ⟨rfl, rfl, rfl, trivial⟩ (g_end (fun h => h))
        · refine g_aload_n hX dX7_bestOf_29 rfl rfl ?_
          refine g_get hX fi_7_31 p7_0 e7_0 rfl dX7_bestOf_30 ?_
          refine g_iload_n hX dX7_bestOf_33 rfl rfl ?_
          refine g_iald hX p7_8 e7_8 dX7_bestOf_34 ?_
          intro x34 hx34
          refine g_bipush hX dX7_bestOf_35 bp_m9 ?_
          refine g_icmp_ne hX dX7_bestOf_37 (fun h37 => ?_) (fun h37 => ?_)
          · refine g_aload_n hX dX7_bestOf_40 rfl rfl ?_
            refine g_iload_n hX dX7_bestOf_41 rfl rfl ?_
            refine g_iload_n hX dX7_bestOf_42 rfl rfl ?_
            refine g_callV hX (As := [.int x19, .int a1]) (fun r => (some (.int r))) (fun _ => cm) (fun _ => mm) (fun _ => lm) (fun r hr => c_X7_isCandidate  hr) mi_X7_isCandidate ml_7_129 p7_0 e7_0 rfl rfl rfl rfl rfl (Nat.le_of_ble_eq_true rfl) dX7_bestOf_43 ?_
            intro x43 hx43
            refine g_if_eq hX dX7_bestOf_46 (fun h46 => ?_) (fun h46 => ?_)
            · refine g_iinc hX dX7_bestOf_51 ic_1 rfl (Nat.le_of_ble_eq_true rfl) rfl ?_
              refine g_goto hX dX7_bestOf_54 ?_
              exact g_wk (lv0 := [some (.ref (ad Z 32 0)), some (.int a1), some (.int (s2_2 + 1)), none]) ⟨rfl, rfl, rfl, trivial⟩ (g_end (fun h => h))
            · refine g_iload_n hX dX7_bestOf_49 rfl rfl ?_
              exact g_iret hX (fun h => h) dX7_bestOf_50
          · refine g_iinc hX dX7_bestOf_51 ic_1 rfl (Nat.le_of_ble_eq_true rfl) rfl ?_
            refine g_goto hX dX7_bestOf_54 ?_
            exact g_wk (lv0 := [some (.ref (ad Z 32 0)), some (.int a1), some (.int (s2_2 + 1)), none]) ⟨rfl, rfl, rfl, trivial⟩ (g_end (fun h => h))
    · rintro (s2_2 | r)
      · show G _ _ (J Z X 4 cm mm lm 57 [some (.ref (ad Z 32 0)), some (.int a1), some (.int s2_2), none] [])
        refine g_bipush hX dX7_bestOf_57 bp_m9 ?_
        exact g_iret hX (fun h => h) dX7_bestOf_59
      · exact g_end (fun h => h)
  exact g r h hF

def f_X7_heirOf_B15 (mm : MM) (s15_2 : Int32) (s15_3 : Int32) : Option (((Int32 × Int32) ⊕ (Int32)) ⊕ (Int32 × Int32)) :=
  if s15_3 = (-9) then
    some (.inl (.inl (s15_2, s15_3)))
  else
    (f_X7_isIn s15_2 s15_3).bind fun x23 =>
    if x23 = 0 then
      (f_X7_bestOf mm s15_3).bind fun x31 =>
      if x31 = (-9) then
        (rd 159 (mm 1) (148 + s15_3)).bind fun x61 =>
        some (.inr (s15_2 ||| (1 <<< (s15_3 &&& 31)), x61))
      else
        some (.inl (.inr x31))
    else
      some (.inl (.inl (s15_2, s15_3)))

def f_X7_heirOf (mm : MM) (a1 : Int32) : Option (Int32) :=
  (rd 159 (mm 1) (148 + a1)).bind fun x13 =>
  (itr (fun s : Int32 × Int32 => f_X7_heirOf_B15 mm s.1 s.2) 2000 (1 <<< (a1 &&& 31), x13)).bind fun ou => match ou with
  | .inr r => some r
  | .inl (s15_2, s15_3) =>
  some (-9)

abbrev rm_X7_heirOf : Room := { frames := 3, cells := 0, slots := 0, locals := 67 }
set_option maxHeartbeats 2000000 in
set_option maxRecDepth 20000 in
theorem c_X7_heirOf {Z : ZC} {cm : CM} {mm : MM} {lm : LM} {a1 : Int32} {r : Int32}  (h : f_X7_heirOf mm a1 = some r) : Ct Z yX7_heirOf cX7_heirOf 5 (some .int) rm_X7_heirOf [.ref (ad Z 32 0), .int a1] cm mm lm (some (.int r)) cm mm lm := by
  refine Ct_of (own := RX7) [some (.ref (ad Z 32 0)), some (.int a1), none, none, none] ⟨by decide, rfl⟩ rfl (Nat.le_of_ble_eq_true rfl) rfl (fun X hX hF => ?_)
  have g : G (fun r : Int32 => Fx Z X (some .int) (some (.int r)) cm mm lm) (f_X7_heirOf mm a1) (J Z X 5 cm mm lm 0 [some (.ref (ad Z 32 0)), some (.int a1), none, none, none] []) := by
    unfold f_X7_heirOf
    refine g_iconst hX dX7_heirOf_0 ic_1 ?_
    refine g_iload_n hX dX7_heirOf_1 rfl rfl ?_
    refine g_ishl hX dX7_heirOf_2 ?_
    refine g_istore_n hX dX7_heirOf_3 rfl (Nat.le_of_ble_eq_true rfl) rfl ?_
    refine g_aload_n hX dX7_heirOf_4 rfl rfl ?_
    refine g_get hX fi_7_7 p7_0 e7_0 rfl dX7_heirOf_5 ?_
    refine g_sipush hX dX7_heirOf_8 sp_148 ?_
    refine g_iload_n hX dX7_heirOf_11 rfl rfl ?_
    refine g_iadd hX dX7_heirOf_12 ?_
    refine g_iald hX p7_1 e7_1 dX7_heirOf_13 ?_
    intro x13 hx13
    refine g_istore_n hX dX7_heirOf_14 rfl (Nat.le_of_ble_eq_true rfl) rfl ?_
    refine g_loop (Hd := fun s : Int32 × Int32 => J Z X 5 cm mm lm 15 [some (.ref (ad Z 32 0)), some (.int a1), some (.int s.1), some (.int s.2), none] []) (Ex := fun ou : (Int32 × Int32) ⊕ (Int32) => match ou with | .inl e => J Z X 5 cm mm lm 66 [some (.ref (ad Z 32 0)), some (.int a1), some (.int e.1), some (.int e.2), none] [] | .inr r => Fx Z X (some .int) (some (.int r)) cm mm lm) ?_ ?_
    · rintro ⟨s15_2, s15_3⟩
      show G _ (f_X7_heirOf_B15 mm s15_2 s15_3) (J Z X 5 cm mm lm 15 [some (.ref (ad Z 32 0)), some (.int a1), some (.int s15_2), some (.int s15_3), none] [])
      unfold f_X7_heirOf_B15
      refine g_iload_n hX dX7_heirOf_15 rfl rfl ?_
      refine g_bipush hX dX7_heirOf_16 bp_m9 ?_
      refine g_icmp_eq hX dX7_heirOf_18 (fun h18 => ?_) (fun h18 => ?_)
      · exact g_wk (lv0 := [some (.ref (ad Z 32 0)), some (.int a1), some (.int s15_2), some (.int s15_3), none]) ⟨rfl, rfl, rfl, rfl, trivial⟩ (g_end (fun h => h))
      · refine g_iload_n hX dX7_heirOf_21 rfl rfl ?_
        refine g_iload_n hX dX7_heirOf_22 rfl rfl ?_
        refine g_callS hX (As := [.int s15_2, .int s15_3]) (fun r => (some (.int r))) (fun _ => cm) (fun _ => mm) (fun _ => lm) (fun r hr => c_X7_isIn  hr) mi_X7_isIn ml_7_120 rfl rfl rfl (Nat.le_of_ble_eq_true rfl) dX7_heirOf_23 ?_
        intro x23 hx23
        refine g_if_ne hX dX7_heirOf_26 (fun h26 => ?_) (fun h26 => ?_)
        · refine g_aload_n hX dX7_heirOf_29 rfl rfl ?_
          refine g_iload_n hX dX7_heirOf_30 rfl rfl ?_
          refine g_callV hX (As := [.int s15_3]) (fun r => (some (.int r))) (fun _ => cm) (fun _ => mm) (fun _ => lm) (fun r hr => c_X7_bestOf  hr) mi_X7_bestOf ml_7_169 p7_0 e7_0 rfl rfl rfl rfl rfl (Nat.le_of_ble_eq_true rfl) dX7_heirOf_31 ?_
          intro x31 hx31
          refine g_istore hX dX7_heirOf_34 (Nat.le_of_ble_eq_true rfl) rfl ?_
          refine g_iload hX dX7_heirOf_36 rfl ?_
          refine g_bipush hX dX7_heirOf_38 bp_m9 ?_
          refine g_icmp_eq hX dX7_heirOf_40 (fun h40 => ?_) (fun h40 => ?_)
          · refine g_iload_n hX dX7_heirOf_46 rfl rfl ?_
            refine g_iconst hX dX7_heirOf_47 ic_1 ?_
            refine g_iload_n hX dX7_heirOf_48 rfl rfl ?_
            refine g_ishl hX dX7_heirOf_49 ?_
            refine g_ior hX dX7_heirOf_50 ?_
            refine g_istore_n hX dX7_heirOf_51 rfl (Nat.le_of_ble_eq_true rfl) rfl ?_
            refine g_aload_n hX dX7_heirOf_52 rfl rfl ?_
            refine g_get hX fi_7_7 p7_0 e7_0 rfl dX7_heirOf_53 ?_
            refine g_sipush hX dX7_heirOf_56 sp_148 ?_
            refine g_iload_n hX dX7_heirOf_59 rfl rfl ?_
            refine g_iadd hX dX7_heirOf_60 ?_
            refine g_iald hX p7_1 e7_1 dX7_heirOf_61 ?_
            intro x61 hx61
            refine g_istore_n hX dX7_heirOf_62 rfl (Nat.le_of_ble_eq_true rfl) rfl ?_
            refine g_goto hX dX7_heirOf_63 ?_
            exact g_wk (lv0 := [some (.ref (ad Z 32 0)), some (.int a1), some (.int (s15_2 ||| (1 <<< (s15_3 &&& 31)))), some (.int x61), none]) ⟨rfl, rfl, rfl, rfl, trivial⟩ (g_end (fun h => h))
          · refine g_iload hX dX7_heirOf_43 rfl ?_
            exact g_iret hX (fun h => h) dX7_heirOf_45
        · exact g_wk (lv0 := [some (.ref (ad Z 32 0)), some (.int a1), some (.int s15_2), some (.int s15_3), none]) ⟨rfl, rfl, rfl, rfl, trivial⟩ (g_end (fun h => h))
    · rintro (⟨s15_2, s15_3⟩ | r)
      · show G _ _ (J Z X 5 cm mm lm 66 [some (.ref (ad Z 32 0)), some (.int a1), some (.int s15_2), some (.int s15_3), none] [])
        refine g_bipush hX dX7_heirOf_66 bp_m9 ?_
        exact g_iret hX (fun h => h) dX7_heirOf_68
      · exact g_end (fun h => h)
  exact g r h hF

def f_X7_handOn_B7 (a1 : Int32) (s7_2 : Int32) (m7_ : MM) : Option ((Int32 × MM) ⊕ (Int32 × MM)) :=
  (rd 4 (m7_ 4) a1).bind fun x13 =>
  if x13 ≤ s7_2 then
    some (.inl (s7_2, m7_))
  else
    (f_X7_heirOf m7_ a1).bind fun x19 =>
    if x19 = (-9) then
      some (.inr (s7_2 + 1, m7_))
    else
      (wr 16 (m7_ 8) x19 a1).bind fun g35 =>
      (wr 16 ((u2 m7_ 8 g35) 10) x19 1).bind fun g42 =>
      (rd 4 ((u2 (u2 m7_ 8 g35) 10 g42) 7) a1).bind fun x49 =>
      (wr 4 ((u2 (u2 m7_ 8 g35) 10 g42) 7) a1 (x49 - 1)).bind fun g52 =>
      some (.inr (s7_2 + 1, u2 (u2 (u2 m7_ 8 g35) 10 g42) 7 g52))

def f_X7_handOn (mm : MM) (a1 : Int32) : Option (MM) :=
  (rd 4 (mm 6) a1).bind fun x5 =>
  (itr (fun s : Int32 × MM => f_X7_handOn_B7 a1 s.1 s.2) 2000 (x5, mm)).bind fun (s7_2, m7_) =>
  some m7_

abbrev rm_X7_handOn : Room := { frames := 4, cells := 0, slots := 0, locals := 91 }
set_option maxHeartbeats 2000000 in
set_option maxRecDepth 20000 in
theorem c_X7_handOn {Z : ZC} {cm : CM} {mm : MM} {lm : LM} {a1 : Int32} {r : MM}  (h : f_X7_handOn mm a1 = some r) : Ct Z yX7_handOn cX7_handOn 4 none rm_X7_handOn [.ref (ad Z 32 0), .int a1] cm mm lm none cm r lm := by
  refine Ct_of (own := RX7) [some (.ref (ad Z 32 0)), some (.int a1), none, none] ⟨by decide, rfl⟩ rfl (Nat.le_of_ble_eq_true rfl) rfl (fun X hX hF => ?_)
  have g : G (fun r : MM => Fx Z X none none cm r lm) (f_X7_handOn mm a1) (J Z X 4 cm mm lm 0 [some (.ref (ad Z 32 0)), some (.int a1), none, none] []) := by
    unfold f_X7_handOn
    refine g_aload_n hX dX7_handOn_0 rfl rfl ?_
    refine g_get hX fi_7_25 p7_0 e7_0 rfl dX7_handOn_1 ?_
    refine g_iload_n hX dX7_handOn_4 rfl rfl ?_
    refine g_iald hX p7_6 e7_6 dX7_handOn_5 ?_
    intro x5 hx5
    refine g_istore_n hX dX7_handOn_6 rfl (Nat.le_of_ble_eq_true rfl) rfl ?_
    refine g_loop (Hd := fun s : Int32 × MM => J Z X 4 cm s.2 lm 7 [some (.ref (ad Z 32 0)), some (.int a1), some (.int s.1), none] []) (Ex := fun s : Int32 × MM => J Z X 4 cm s.2 lm 59 [some (.ref (ad Z 32 0)), some (.int a1), some (.int s.1), none] []) ?_ ?_
    · rintro ⟨s7_2, m7_⟩
      show G _ (f_X7_handOn_B7 a1 s7_2 m7_) (J Z X 4 cm m7_ lm 7 [some (.ref (ad Z 32 0)), some (.int a1), some (.int s7_2), none] [])
      unfold f_X7_handOn_B7
      refine g_iload_n hX dX7_handOn_7 rfl rfl ?_
      refine g_aload_n hX dX7_handOn_8 rfl rfl ?_
      refine g_get hX fi_7_19 p7_0 e7_0 rfl dX7_handOn_9 ?_
      refine g_iload_n hX dX7_handOn_12 rfl rfl ?_
      refine g_iald hX p7_4 e7_4 dX7_handOn_13 ?_
      intro x13 hx13
      refine g_icmp_ge hX dX7_handOn_14 (fun h14 => ?_) (fun h14 => ?_)
      · exact g_wk (lv0 := [some (.ref (ad Z 32 0)), some (.int a1), some (.int s7_2), none]) ⟨rfl, rfl, rfl, trivial⟩ (g_end (fun h => h))
      · refine g_aload_n hX dX7_handOn_17 rfl rfl ?_
        refine g_iload_n hX dX7_handOn_18 rfl rfl ?_
        refine g_callV hX (As := [.int a1]) (fun r => (some (.int r))) (fun _ => cm) (fun _ => m7_) (fun _ => lm) (fun r hr => c_X7_heirOf  hr) mi_X7_heirOf ml_7_172 p7_0 e7_0 rfl rfl rfl rfl rfl (Nat.le_of_ble_eq_true rfl) dX7_handOn_19 ?_
        intro x19 hx19
        refine g_istore_n hX dX7_handOn_22 rfl (Nat.le_of_ble_eq_true rfl) rfl ?_
        refine g_iload_n hX dX7_handOn_23 rfl rfl ?_
        refine g_bipush hX dX7_handOn_24 bp_m9 ?_
        refine g_icmp_eq hX dX7_handOn_26 (fun h26 => ?_) (fun h26 => ?_)
        · refine g_iinc hX dX7_handOn_53 ic_1 rfl (Nat.le_of_ble_eq_true rfl) rfl ?_
          refine g_goto hX dX7_handOn_56 ?_
          exact g_wk (lv0 := [some (.ref (ad Z 32 0)), some (.int a1), some (.int (s7_2 + 1)), none]) ⟨rfl, rfl, rfl, trivial⟩ (g_end (fun h => h))
        · refine g_aload_n hX dX7_handOn_29 rfl rfl ?_
          refine g_get hX fi_7_31 p7_0 e7_0 rfl dX7_handOn_30 ?_
          refine g_iload_n hX dX7_handOn_33 rfl rfl ?_
          refine g_iload_n hX dX7_handOn_34 rfl rfl ?_
          refine g_iastM hX p7_8 (s7_8 Z _) dX7_handOn_35 ?_
          intro g35 hg35
          refine g_aload_n hX dX7_handOn_36 rfl rfl ?_
          refine g_get hX fi_7_37 p7_0 e7_0 rfl dX7_handOn_37 ?_
          refine g_iload_n hX dX7_handOn_40 rfl rfl ?_
          refine g_iconst hX dX7_handOn_41 ic_1 ?_
          refine g_zastM hX p7_10 (s7_10 Z _) (by decide) dX7_handOn_42 ?_
          intro g42 hg42
          refine g_aload_n hX dX7_handOn_43 rfl rfl ?_
          refine g_get hX fi_7_28 p7_0 e7_0 rfl dX7_handOn_44 ?_
          refine g_iload_n hX dX7_handOn_47 rfl rfl ?_
          refine g_dup2 hX dX7_handOn_48 rfl rfl ?_
          refine g_iald hX p7_7 e7_7 dX7_handOn_49 ?_
          intro x49 hx49
          refine g_iconst hX dX7_handOn_50 ic_1 ?_
          refine g_isub hX dX7_handOn_51 ?_
          refine g_iastM hX p7_7 (s7_7 Z _) dX7_handOn_52 ?_
          intro g52 hg52
          refine g_iinc hX dX7_handOn_53 ic_1 rfl (Nat.le_of_ble_eq_true rfl) rfl ?_
          refine g_goto hX dX7_handOn_56 ?_
          exact g_wk (lv0 := [some (.ref (ad Z 32 0)), some (.int a1), some (.int (s7_2 + 1)), none]) ⟨rfl, rfl, rfl, trivial⟩ (g_end (fun h => h))
    · rintro ⟨s7_2, m7_⟩
      show G _ _ (J Z X 4 cm m7_ lm 59 [some (.ref (ad Z 32 0)), some (.int a1), some (.int s7_2), none] [])
      exact g_vret hX (fun h => h) dX7_handOn_59
  exact g r h hF

def f_X7_choose_B6 (s6_1 : Int32) (m6_ : MM) : Option ((Int32 × MM) ⊕ (Int32 × MM)) :=
  (rd 159 (m6_ 1) 157).bind fun x14 =>
  if x14 ≤ s6_1 then
    some (.inl (s6_1, m6_))
  else
    (f_X7_aheadOf m6_ s6_1).bind fun x24 =>
    (wr 16 (m6_ 3) x24 s6_1).bind fun g28 =>
    (wr 16 ((u2 m6_ 3 g28) 8) s6_1 (-9)).bind fun g36 =>
    (wr 16 ((u2 (u2 m6_ 3 g28) 8 g36) 9) s6_1 (-9)).bind fun g44 =>
    (wr 16 ((u2 (u2 (u2 m6_ 3 g28) 8 g36) 9 g44) 10) s6_1 0).bind fun g51 =>
    some (.inr (s6_1 + 1, u2 (u2 (u2 (u2 m6_ 3 g28) 8 g36) 9 g44) 10 g51))

def f_X7_choose_B60 (s60_1 : Int32) (m60_ : MM) : Option ((Int32 × MM) ⊕ (Int32 × MM)) :=
  if 4 ≤ s60_1 then
    some (.inl (s60_1, m60_))
  else
    (rd 159 (m60_ 1) (152 + s60_1)).bind fun x74 =>
    (f_X7_takeIn m60_ x74).bind fun r78 =>
    (rd 4 (r78 4) x74).bind fun x91 =>
    (rd 4 (r78 6) x74).bind fun x97 =>
    (wr 4 (r78 7) x74 (x91 - x97)).bind fun g99 =>
    some (.inr (s60_1 + 1, u2 r78 7 g99))

def f_X7_choose_B108 (s108_1 : Int32) (m108_ : MM) : Option ((Int32 × MM) ⊕ (Int32 × MM)) :=
  if 4 ≤ s108_1 then
    some (.inl (s108_1, m108_))
  else
    (rd 159 (m108_ 1) (152 + s108_1)).bind fun x123 =>
    (f_X7_handOn m108_ x123).bind fun r124 =>
    some (.inr (s108_1 + 1, r124))

def f_X7_choose (mm : MM) : Option (MM) :=
  (f_X7_findFree mm).bind fun r1 =>
  (itr (fun s : Int32 × MM => f_X7_choose_B6 s.1 s.2) 2000 (0, r1)).bind fun (s6_1, m6_) =>
  (itr (fun s : Int32 × MM => f_X7_choose_B60 s.1 s.2) 2000 (0, m6_)).bind fun (s60_1, m60_) =>
  (itr (fun s : Int32 × MM => f_X7_choose_B108 s.1 s.2) 2000 (0, m60_)).bind fun (s108_1, m108_) =>
  some m108_

abbrev rm_X7_choose : Room := { frames := 5, cells := 0, slots := 0, locals := 114 }
set_option maxHeartbeats 2000000 in
set_option maxRecDepth 20000 in
theorem c_X7_choose {Z : ZC} {cm : CM} {mm : MM} {lm : LM} {r : MM}  (h : f_X7_choose mm = some r) : Ct Z yX7_choose cX7_choose 3 none rm_X7_choose [.ref (ad Z 32 0)] cm mm lm none cm r lm := by
  refine Ct_of (own := RX7) [some (.ref (ad Z 32 0)), none, none] ⟨by decide, rfl⟩ rfl (Nat.le_of_ble_eq_true rfl) rfl (fun X hX hF => ?_)
  have g : G (fun r : MM => Fx Z X none none cm r lm) (f_X7_choose mm) (J Z X 3 cm mm lm 0 [some (.ref (ad Z 32 0)), none, none] []) := by
    unfold f_X7_choose
    refine g_aload_n hX dX7_choose_0 rfl rfl ?_
    refine g_callV hX (As := []) (fun _ => none) (fun _ => cm) (fun r => r) (fun _ => lm) (fun r hr => c_X7_findFree  hr) mi_X7_findFree ml_7_175 p7_0 e7_0 rfl rfl rfl rfl rfl (Nat.le_of_ble_eq_true rfl) dX7_choose_1 ?_
    intro r1 hr1
    refine g_iconst hX dX7_choose_4 ic_0 ?_
    refine g_istore_n hX dX7_choose_5 rfl (Nat.le_of_ble_eq_true rfl) rfl ?_
    refine g_loop (Hd := fun s : Int32 × MM => J Z X 3 cm s.2 lm 6 [some (.ref (ad Z 32 0)), some (.int s.1), none] []) (Ex := fun s : Int32 × MM => J Z X 3 cm s.2 lm 58 [some (.ref (ad Z 32 0)), some (.int s.1), none] []) ?_ ?_
    · rintro ⟨s6_1, m6_⟩
      show G _ (f_X7_choose_B6 s6_1 m6_) (J Z X 3 cm m6_ lm 6 [some (.ref (ad Z 32 0)), some (.int s6_1), none] [])
      unfold f_X7_choose_B6
      refine g_iload_n hX dX7_choose_6 rfl rfl ?_
      refine g_aload_n hX dX7_choose_7 rfl rfl ?_
      refine g_get hX fi_7_7 p7_0 e7_0 rfl dX7_choose_8 ?_
      refine g_sipush hX dX7_choose_11 sp_157 ?_
      refine g_iald hX p7_1 e7_1 dX7_choose_14 ?_
      intro x14 hx14
      refine g_icmp_ge hX dX7_choose_15 (fun h15 => ?_) (fun h15 => ?_)
      · exact g_wk (lv0 := [some (.ref (ad Z 32 0)), some (.int s6_1), none]) ⟨rfl, rfl, trivial⟩ (g_end (fun h => h))
      · refine g_aload_n hX dX7_choose_18 rfl rfl ?_
        refine g_get hX fi_7_16 p7_0 e7_0 rfl dX7_choose_19 ?_
        refine g_aload_n hX dX7_choose_22 rfl rfl ?_
        refine g_iload_n hX dX7_choose_23 rfl rfl ?_
        refine g_callV hX (As := [.int s6_1]) (fun r => (some (.int r))) (fun _ => cm) (fun _ => m6_) (fun _ => lm) (fun r hr => c_X7_aheadOf  hr) mi_X7_aheadOf ml_7_110 p7_0 e7_0 rfl rfl rfl rfl rfl (Nat.le_of_ble_eq_true rfl) dX7_choose_24 ?_
        intro x24 hx24
        refine g_iload_n hX dX7_choose_27 rfl rfl ?_
        refine g_iastM hX p7_3 (s7_3 Z _) dX7_choose_28 ?_
        intro g28 hg28
        refine g_aload_n hX dX7_choose_29 rfl rfl ?_
        refine g_get hX fi_7_31 p7_0 e7_0 rfl dX7_choose_30 ?_
        refine g_iload_n hX dX7_choose_33 rfl rfl ?_
        refine g_bipush hX dX7_choose_34 bp_m9 ?_
        refine g_iastM hX p7_8 (s7_8 Z _) dX7_choose_36 ?_
        intro g36 hg36
        refine g_aload_n hX dX7_choose_37 rfl rfl ?_
        refine g_get hX fi_7_34 p7_0 e7_0 rfl dX7_choose_38 ?_
        refine g_iload_n hX dX7_choose_41 rfl rfl ?_
        refine g_bipush hX dX7_choose_42 bp_m9 ?_
        refine g_iastM hX p7_9 (s7_9 Z _) dX7_choose_44 ?_
        intro g44 hg44
        refine g_aload_n hX dX7_choose_45 rfl rfl ?_
        refine g_get hX fi_7_37 p7_0 e7_0 rfl dX7_choose_46 ?_
        refine g_iload_n hX dX7_choose_49 rfl rfl ?_
        refine g_iconst hX dX7_choose_50 ic_0 ?_
        refine g_zastM hX p7_10 (s7_10 Z _) (by decide) dX7_choose_51 ?_
        intro g51 hg51
        refine g_iinc hX dX7_choose_52 ic_1 rfl (Nat.le_of_ble_eq_true rfl) rfl ?_
        refine g_goto hX dX7_choose_55 ?_
        exact g_wk (lv0 := [some (.ref (ad Z 32 0)), some (.int (s6_1 + 1)), none]) ⟨rfl, rfl, trivial⟩ (g_end (fun h => h))
    · rintro ⟨s6_1, m6_⟩
      show G _ _ (J Z X 3 cm m6_ lm 58 [some (.ref (ad Z 32 0)), some (.int s6_1), none] [])
      refine g_iconst hX dX7_choose_58 ic_0 ?_
      refine g_istore_n hX dX7_choose_59 rfl (Nat.le_of_ble_eq_true rfl) rfl ?_
      refine g_loop (Hd := fun s : Int32 × MM => J Z X 3 cm s.2 lm 60 [some (.ref (ad Z 32 0)), some (.int s.1), none] []) (Ex := fun s : Int32 × MM => J Z X 3 cm s.2 lm 106 [some (.ref (ad Z 32 0)), some (.int s.1), none] []) ?_ ?_
      · rintro ⟨s60_1, m60_⟩
        show G _ (f_X7_choose_B60 s60_1 m60_) (J Z X 3 cm m60_ lm 60 [some (.ref (ad Z 32 0)), some (.int s60_1), none] [])
        unfold f_X7_choose_B60
        refine g_iload_n hX dX7_choose_60 rfl rfl ?_
        refine g_iconst hX dX7_choose_61 ic_4 ?_
        refine g_icmp_ge hX dX7_choose_62 (fun h62 => ?_) (fun h62 => ?_)
        · exact g_wk (lv0 := [some (.ref (ad Z 32 0)), some (.int s60_1), none]) ⟨rfl, rfl, trivial⟩ (g_end (fun h => h))
        · refine g_aload_n hX dX7_choose_65 rfl rfl ?_
          refine g_get hX fi_7_7 p7_0 e7_0 rfl dX7_choose_66 ?_
          refine g_sipush hX dX7_choose_69 sp_152 ?_
          refine g_iload_n hX dX7_choose_72 rfl rfl ?_
          refine g_iadd hX dX7_choose_73 ?_
          refine g_iald hX p7_1 e7_1 dX7_choose_74 ?_
          intro x74 hx74
          refine g_istore_n hX dX7_choose_75 rfl (Nat.le_of_ble_eq_true rfl) rfl ?_
          refine g_aload_n hX dX7_choose_76 rfl rfl ?_
          refine g_iload_n hX dX7_choose_77 rfl rfl ?_
          refine g_callV hX (As := [.int x74]) (fun _ => none) (fun _ => cm) (fun r => r) (fun _ => lm) (fun r hr => c_X7_takeIn  hr) mi_X7_takeIn ml_7_178 p7_0 e7_0 rfl rfl rfl rfl rfl (Nat.le_of_ble_eq_true rfl) dX7_choose_78 ?_
          intro r78 hr78
          refine g_aload_n hX dX7_choose_81 rfl rfl ?_
          refine g_get hX fi_7_28 p7_0 e7_0 rfl dX7_choose_82 ?_
          refine g_iload_n hX dX7_choose_85 rfl rfl ?_
          refine g_aload_n hX dX7_choose_86 rfl rfl ?_
          refine g_get hX fi_7_19 p7_0 e7_0 rfl dX7_choose_87 ?_
          refine g_iload_n hX dX7_choose_90 rfl rfl ?_
          refine g_iald hX p7_4 e7_4 dX7_choose_91 ?_
          intro x91 hx91
          refine g_aload_n hX dX7_choose_92 rfl rfl ?_
          refine g_get hX fi_7_25 p7_0 e7_0 rfl dX7_choose_93 ?_
          refine g_iload_n hX dX7_choose_96 rfl rfl ?_
          refine g_iald hX p7_6 e7_6 dX7_choose_97 ?_
          intro x97 hx97
          refine g_isub hX dX7_choose_98 ?_
          refine g_iastM hX p7_7 (s7_7 Z _) dX7_choose_99 ?_
          intro g99 hg99
          refine g_iinc hX dX7_choose_100 ic_1 rfl (Nat.le_of_ble_eq_true rfl) rfl ?_
          refine g_goto hX dX7_choose_103 ?_
          exact g_wk (lv0 := [some (.ref (ad Z 32 0)), some (.int (s60_1 + 1)), none]) ⟨rfl, rfl, trivial⟩ (g_end (fun h => h))
      · rintro ⟨s60_1, m60_⟩
        show G _ _ (J Z X 3 cm m60_ lm 106 [some (.ref (ad Z 32 0)), some (.int s60_1), none] [])
        refine g_iconst hX dX7_choose_106 ic_0 ?_
        refine g_istore_n hX dX7_choose_107 rfl (Nat.le_of_ble_eq_true rfl) rfl ?_
        refine g_loop (Hd := fun s : Int32 × MM => J Z X 3 cm s.2 lm 108 [some (.ref (ad Z 32 0)), some (.int s.1), none] []) (Ex := fun s : Int32 × MM => J Z X 3 cm s.2 lm 133 [some (.ref (ad Z 32 0)), some (.int s.1), none] []) ?_ ?_
        · rintro ⟨s108_1, m108_⟩
          show G _ (f_X7_choose_B108 s108_1 m108_) (J Z X 3 cm m108_ lm 108 [some (.ref (ad Z 32 0)), some (.int s108_1), none] [])
          unfold f_X7_choose_B108
          refine g_iload_n hX dX7_choose_108 rfl rfl ?_
          refine g_iconst hX dX7_choose_109 ic_4 ?_
          refine g_icmp_ge hX dX7_choose_110 (fun h110 => ?_) (fun h110 => ?_)
          · exact g_wk (lv0 := [some (.ref (ad Z 32 0)), some (.int s108_1), none]) ⟨rfl, rfl, trivial⟩ (g_end (fun h => h))
          · refine g_aload_n hX dX7_choose_113 rfl rfl ?_
            refine g_aload_n hX dX7_choose_114 rfl rfl ?_
            refine g_get hX fi_7_7 p7_0 e7_0 rfl dX7_choose_115 ?_
            refine g_sipush hX dX7_choose_118 sp_152 ?_
            refine g_iload_n hX dX7_choose_121 rfl rfl ?_
            refine g_iadd hX dX7_choose_122 ?_
            refine g_iald hX p7_1 e7_1 dX7_choose_123 ?_
            intro x123 hx123
            refine g_callV hX (As := [.int x123]) (fun _ => none) (fun _ => cm) (fun r => r) (fun _ => lm) (fun r hr => c_X7_handOn  hr) mi_X7_handOn ml_7_181 p7_0 e7_0 rfl rfl rfl rfl rfl (Nat.le_of_ble_eq_true rfl) dX7_choose_124 ?_
            intro r124 hr124
            refine g_iinc hX dX7_choose_127 ic_1 rfl (Nat.le_of_ble_eq_true rfl) rfl ?_
            refine g_goto hX dX7_choose_130 ?_
            exact g_wk (lv0 := [some (.ref (ad Z 32 0)), some (.int (s108_1 + 1)), none]) ⟨rfl, rfl, trivial⟩ (g_end (fun h => h))
        · rintro ⟨s108_1, m108_⟩
          show G _ _ (J Z X 3 cm m108_ lm 133 [some (.ref (ad Z 32 0)), some (.int s108_1), none] [])
          exact g_vret hX (fun h => h) dX7_choose_133
  exact g r h hF

def f_X7_chooseAll_B6 (s6_1 : Int32) (m6_ : MM) : Option ((Int32 × MM) ⊕ (Int32 × MM)) :=
  if 4 ≤ s6_1 then
    some (.inl (s6_1, m6_))
  else
    (rd 159 (m6_ 1) 156).bind fun x18 =>
    if x18 = 1 then
      some (.inl (s6_1, m6_))
    else
      (f_X7_countIn m6_ s6_1).bind fun r25 =>
      some (.inr (s6_1 + 1, r25))

def f_X7_chooseAll (mm : MM) : Option (MM) :=
  (f_X7_choose mm).bind fun r1 =>
  (itr (fun s : Int32 × MM => f_X7_chooseAll_B6 s.1 s.2) 2000 (0, r1)).bind fun (s6_1, m6_) =>
  some m6_

abbrev rm_X7_chooseAll : Room := { frames := 6, cells := 0, slots := 0, locals := 136 }
set_option maxHeartbeats 2000000 in
set_option maxRecDepth 20000 in
theorem c_X7_chooseAll {Z : ZC} {cm : CM} {mm : MM} {lm : LM} {r : MM}  (h : f_X7_chooseAll mm = some r) : Ct Z yX7_chooseAll cX7_chooseAll 2 none rm_X7_chooseAll [.ref (ad Z 32 0)] cm mm lm none cm r lm := by
  refine Ct_of (own := RX7) [some (.ref (ad Z 32 0)), none] ⟨by decide, rfl⟩ rfl (Nat.le_of_ble_eq_true rfl) rfl (fun X hX hF => ?_)
  have g : G (fun r : MM => Fx Z X none none cm r lm) (f_X7_chooseAll mm) (J Z X 2 cm mm lm 0 [some (.ref (ad Z 32 0)), none] []) := by
    unfold f_X7_chooseAll
    refine g_aload_n hX dX7_chooseAll_0 rfl rfl ?_
    refine g_callV hX (As := []) (fun _ => none) (fun _ => cm) (fun r => r) (fun _ => lm) (fun r hr => c_X7_choose  hr) mi_X7_choose ml_7_184 p7_0 e7_0 rfl rfl rfl rfl rfl (Nat.le_of_ble_eq_true rfl) dX7_chooseAll_1 ?_
    intro r1 hr1
    refine g_iconst hX dX7_chooseAll_4 ic_0 ?_
    refine g_istore_n hX dX7_chooseAll_5 rfl (Nat.le_of_ble_eq_true rfl) rfl ?_
    refine g_loop (Hd := fun s : Int32 × MM => J Z X 2 cm s.2 lm 6 [some (.ref (ad Z 32 0)), some (.int s.1)] []) (Ex := fun s : Int32 × MM => J Z X 2 cm s.2 lm 34 [some (.ref (ad Z 32 0)), some (.int s.1)] []) ?_ ?_
    · rintro ⟨s6_1, m6_⟩
      show G _ (f_X7_chooseAll_B6 s6_1 m6_) (J Z X 2 cm m6_ lm 6 [some (.ref (ad Z 32 0)), some (.int s6_1)] [])
      unfold f_X7_chooseAll_B6
      refine g_iload_n hX dX7_chooseAll_6 rfl rfl ?_
      refine g_iconst hX dX7_chooseAll_7 ic_4 ?_
      refine g_icmp_ge hX dX7_chooseAll_8 (fun h8 => ?_) (fun h8 => ?_)
      · exact g_wk (lv0 := [some (.ref (ad Z 32 0)), some (.int s6_1)]) ⟨rfl, rfl, trivial⟩ (g_end (fun h => h))
      · refine g_aload_n hX dX7_chooseAll_11 rfl rfl ?_
        refine g_get hX fi_7_7 p7_0 e7_0 rfl dX7_chooseAll_12 ?_
        refine g_sipush hX dX7_chooseAll_15 sp_156 ?_
        refine g_iald hX p7_1 e7_1 dX7_chooseAll_18 ?_
        intro x18 hx18
        refine g_iconst hX dX7_chooseAll_19 ic_1 ?_
        refine g_icmp_eq hX dX7_chooseAll_20 (fun h20 => ?_) (fun h20 => ?_)
        · exact g_wk (lv0 := [some (.ref (ad Z 32 0)), some (.int s6_1)]) ⟨rfl, rfl, trivial⟩ (g_end (fun h => h))
        · refine g_aload_n hX dX7_chooseAll_23 rfl rfl ?_
          refine g_iload_n hX dX7_chooseAll_24 rfl rfl ?_
          refine g_callV hX (As := [.int s6_1]) (fun _ => none) (fun _ => cm) (fun r => r) (fun _ => lm) (fun r hr => c_X7_countIn  hr) mi_X7_countIn ml_7_187 p7_0 e7_0 rfl rfl rfl rfl rfl (Nat.le_of_ble_eq_true rfl) dX7_chooseAll_25 ?_
          intro r25 hr25
          refine g_iinc hX dX7_chooseAll_28 ic_1 rfl (Nat.le_of_ble_eq_true rfl) rfl ?_
          refine g_goto hX dX7_chooseAll_31 ?_
          exact g_wk (lv0 := [some (.ref (ad Z 32 0)), some (.int (s6_1 + 1))]) ⟨rfl, rfl, trivial⟩ (g_end (fun h => h))
    · rintro ⟨s6_1, m6_⟩
      show G _ _ (J Z X 2 cm m6_ lm 34 [some (.ref (ad Z 32 0)), some (.int s6_1)] [])
      exact g_vret hX (fun h => h) dX7_chooseAll_34
  exact g r h hF

def f_X7_chosen_B4 (mm : MM) (s4_1 : Int32) (s4_2 : Int32) : Option ((Int32 × Int32) ⊕ (Int32 × Int32)) :=
  (rd 159 (mm 1) 157).bind fun x12 =>
  if x12 ≤ s4_2 then
    some (.inl (s4_1, s4_2))
  else
    (rd 16 (mm 8) s4_2).bind fun x22 =>
    if x22 = (-9) then
      some (.inr (s4_1 ||| 0, s4_2 + 1))
    else
      some (.inr (s4_1 ||| (1 <<< (s4_2 &&& 31)), s4_2 + 1))

def f_X7_chosen (mm : MM) : Option (Int32) :=
  (itr (fun s : Int32 × Int32 => f_X7_chosen_B4 mm s.1 s.2) 2000 (0, 0)).bind fun (s4_1, s4_2) =>
  some s4_1

abbrev rm_X7_chosen : Room := { frames := 0, cells := 0, slots := 0, locals := 0 }
set_option maxHeartbeats 2000000 in
set_option maxRecDepth 20000 in
theorem c_X7_chosen {Z : ZC} {cm : CM} {mm : MM} {lm : LM} {r : Int32}  (h : f_X7_chosen mm = some r) : Ct Z yX7_chosen cX7_chosen 3 (some .int) rm_X7_chosen [.ref (ad Z 32 0)] cm mm lm (some (.int r)) cm mm lm := by
  refine Ct_of (own := RX7) [some (.ref (ad Z 32 0)), none, none] ⟨by decide, rfl⟩ rfl (Nat.le_of_ble_eq_true rfl) rfl (fun X hX hF => ?_)
  have g : G (fun r : Int32 => Fx Z X (some .int) (some (.int r)) cm mm lm) (f_X7_chosen mm) (J Z X 3 cm mm lm 0 [some (.ref (ad Z 32 0)), none, none] []) := by
    unfold f_X7_chosen
    refine g_iconst hX dX7_chosen_0 ic_0 ?_
    refine g_istore_n hX dX7_chosen_1 rfl (Nat.le_of_ble_eq_true rfl) rfl ?_
    refine g_iconst hX dX7_chosen_2 ic_0 ?_
    refine g_istore_n hX dX7_chosen_3 rfl (Nat.le_of_ble_eq_true rfl) rfl ?_
    refine g_loop (Hd := fun s : Int32 × Int32 => J Z X 3 cm mm lm 4 [some (.ref (ad Z 32 0)), some (.int s.1), some (.int s.2)] []) (Ex := fun s : Int32 × Int32 => J Z X 3 cm mm lm 43 [some (.ref (ad Z 32 0)), some (.int s.1), some (.int s.2)] []) ?_ ?_
    · rintro ⟨s4_1, s4_2⟩
      show G _ (f_X7_chosen_B4 mm s4_1 s4_2) (J Z X 3 cm mm lm 4 [some (.ref (ad Z 32 0)), some (.int s4_1), some (.int s4_2)] [])
      unfold f_X7_chosen_B4
      refine g_iload_n hX dX7_chosen_4 rfl rfl ?_
      refine g_aload_n hX dX7_chosen_5 rfl rfl ?_
      refine g_get hX fi_7_7 p7_0 e7_0 rfl dX7_chosen_6 ?_
      refine g_sipush hX dX7_chosen_9 sp_157 ?_
      refine g_iald hX p7_1 e7_1 dX7_chosen_12 ?_
      intro x12 hx12
      refine g_icmp_ge hX dX7_chosen_13 (fun h13 => ?_) (fun h13 => ?_)
      · exact g_wk (lv0 := [some (.ref (ad Z 32 0)), some (.int s4_1), some (.int s4_2)]) ⟨rfl, rfl, rfl, trivial⟩ (g_end (fun h => h))
      · refine g_iload_n hX dX7_chosen_16 rfl rfl ?_
        refine g_aload_n hX dX7_chosen_17 rfl rfl ?_
        refine g_get hX fi_7_31 p7_0 e7_0 rfl dX7_chosen_18 ?_
        refine g_iload_n hX dX7_chosen_21 rfl rfl ?_
        refine g_iald hX p7_8 e7_8 dX7_chosen_22 ?_
        intro x22 hx22
        refine g_bipush hX dX7_chosen_23 bp_m9 ?_
        refine g_icmp_ne hX dX7_chosen_25 (fun h25 => ?_) (fun h25 => ?_)
        · refine g_iconst hX dX7_chosen_28 ic_0 ?_
          refine g_goto hX dX7_chosen_29 ?_
          refine g_ior hX dX7_chosen_35 ?_
          refine g_istore_n hX dX7_chosen_36 rfl (Nat.le_of_ble_eq_true rfl) rfl ?_
          refine g_iinc hX dX7_chosen_37 ic_1 rfl (Nat.le_of_ble_eq_true rfl) rfl ?_
          refine g_goto hX dX7_chosen_40 ?_
          exact g_wk (lv0 := [some (.ref (ad Z 32 0)), some (.int (s4_1 ||| 0)), some (.int (s4_2 + 1))]) ⟨rfl, rfl, rfl, trivial⟩ (g_end (fun h => h))
        · refine g_iconst hX dX7_chosen_32 ic_1 ?_
          refine g_iload_n hX dX7_chosen_33 rfl rfl ?_
          refine g_ishl hX dX7_chosen_34 ?_
          refine g_ior hX dX7_chosen_35 ?_
          refine g_istore_n hX dX7_chosen_36 rfl (Nat.le_of_ble_eq_true rfl) rfl ?_
          refine g_iinc hX dX7_chosen_37 ic_1 rfl (Nat.le_of_ble_eq_true rfl) rfl ?_
          refine g_goto hX dX7_chosen_40 ?_
          exact g_wk (lv0 := [some (.ref (ad Z 32 0)), some (.int (s4_1 ||| (1 <<< (s4_2 &&& 31)))), some (.int (s4_2 + 1))]) ⟨rfl, rfl, rfl, trivial⟩ (g_end (fun h => h))
    · rintro ⟨s4_1, s4_2⟩
      show G _ _ (J Z X 3 cm mm lm 43 [some (.ref (ad Z 32 0)), some (.int s4_1), some (.int s4_2)] [])
      refine g_iload_n hX dX7_chosen_43 rfl rfl ?_
      exact g_iret hX (fun h => h) dX7_chosen_44
  exact g r h hF

def f_X7_seat (mm : MM) (a1 : Int32) : Option (Int32 × MM) :=
  (f_X7_isPerson mm a1).bind fun x2 =>
  if x2 = 0 then
    some ((-1), mm)
  else
    (f_X7_choose mm).bind fun r11 =>
    (rd 16 (r11 8) a1).bind fun x19 =>
    some (x19, r11)

abbrev rm_X7_seat : Room := { frames := 6, cells := 0, slots := 0, locals := 136 }
set_option maxHeartbeats 2000000 in
set_option maxRecDepth 20000 in
theorem c_X7_seat {Z : ZC} {cm : CM} {mm : MM} {lm : LM} {a1 : Int32} {r : Int32 × MM}  (h : f_X7_seat mm a1 = some r) : Ct Z yX7_seat cX7_seat 2 (some .int) rm_X7_seat [.ref (ad Z 32 0), .int a1] cm mm lm (some (.int r.1)) cm r.2 lm := by
  refine Ct_of (own := RX7) [some (.ref (ad Z 32 0)), some (.int a1)] ⟨by decide, rfl⟩ rfl (Nat.le_of_ble_eq_true rfl) rfl (fun X hX hF => ?_)
  have g : G (fun r : Int32 × MM => Fx Z X (some .int) (some (.int r.1)) cm r.2 lm) (f_X7_seat mm a1) (J Z X 2 cm mm lm 0 [some (.ref (ad Z 32 0)), some (.int a1)] []) := by
    unfold f_X7_seat
    refine g_aload_n hX dX7_seat_0 rfl rfl ?_
    refine g_iload_n hX dX7_seat_1 rfl rfl ?_
    refine g_callV hX (As := [.int a1]) (fun r => (some (.int r))) (fun _ => cm) (fun _ => mm) (fun _ => lm) (fun r hr => c_X7_isPerson  hr) mi_X7_isPerson ml_7_92 p7_0 e7_0 rfl rfl rfl rfl rfl (Nat.le_of_ble_eq_true rfl) dX7_seat_2 ?_
    intro x2 hx2
    refine g_if_ne hX dX7_seat_5 (fun h5 => ?_) (fun h5 => ?_)
    · refine g_iconst hX dX7_seat_8 ic_m1 ?_
      exact g_iret hX (fun h => h) dX7_seat_9
    · refine g_aload_n hX dX7_seat_10 rfl rfl ?_
      refine g_callV hX (As := []) (fun _ => none) (fun _ => cm) (fun r => r) (fun _ => lm) (fun r hr => c_X7_choose  hr) mi_X7_choose ml_7_184 p7_0 e7_0 rfl rfl rfl rfl rfl (Nat.le_of_ble_eq_true rfl) dX7_seat_11 ?_
      intro r11 hr11
      refine g_aload_n hX dX7_seat_14 rfl rfl ?_
      refine g_get hX fi_7_31 p7_0 e7_0 rfl dX7_seat_15 ?_
      refine g_iload_n hX dX7_seat_18 rfl rfl ?_
      refine g_iald hX p7_8 e7_8 dX7_seat_19 ?_
      intro x19 hx19
      exact g_iret hX (fun h => h) dX7_seat_20
  exact g r h hF

def f_X7_counted (mm : MM) (a1 : Int32) : Option (Int32 × MM) :=
  (f_X7_isPerson mm a1).bind fun x2 =>
  if x2 = 0 then
    some ((-1), mm)
  else
    (f_X7_chooseAll mm).bind fun r11 =>
    (rd 16 (r11 9) a1).bind fun x19 =>
    some (x19, r11)

abbrev rm_X7_counted : Room := { frames := 7, cells := 0, slots := 0, locals := 157 }
set_option maxHeartbeats 2000000 in
set_option maxRecDepth 20000 in
theorem c_X7_counted {Z : ZC} {cm : CM} {mm : MM} {lm : LM} {a1 : Int32} {r : Int32 × MM}  (h : f_X7_counted mm a1 = some r) : Ct Z yX7_counted cX7_counted 2 (some .int) rm_X7_counted [.ref (ad Z 32 0), .int a1] cm mm lm (some (.int r.1)) cm r.2 lm := by
  refine Ct_of (own := RX7) [some (.ref (ad Z 32 0)), some (.int a1)] ⟨by decide, rfl⟩ rfl (Nat.le_of_ble_eq_true rfl) rfl (fun X hX hF => ?_)
  have g : G (fun r : Int32 × MM => Fx Z X (some .int) (some (.int r.1)) cm r.2 lm) (f_X7_counted mm a1) (J Z X 2 cm mm lm 0 [some (.ref (ad Z 32 0)), some (.int a1)] []) := by
    unfold f_X7_counted
    refine g_aload_n hX dX7_counted_0 rfl rfl ?_
    refine g_iload_n hX dX7_counted_1 rfl rfl ?_
    refine g_callV hX (As := [.int a1]) (fun r => (some (.int r))) (fun _ => cm) (fun _ => mm) (fun _ => lm) (fun r hr => c_X7_isPerson  hr) mi_X7_isPerson ml_7_92 p7_0 e7_0 rfl rfl rfl rfl rfl (Nat.le_of_ble_eq_true rfl) dX7_counted_2 ?_
    intro x2 hx2
    refine g_if_ne hX dX7_counted_5 (fun h5 => ?_) (fun h5 => ?_)
    · refine g_iconst hX dX7_counted_8 ic_m1 ?_
      exact g_iret hX (fun h => h) dX7_counted_9
    · refine g_aload_n hX dX7_counted_10 rfl rfl ?_
      refine g_callV hX (As := []) (fun _ => none) (fun _ => cm) (fun r => r) (fun _ => lm) (fun r hr => c_X7_chooseAll  hr) mi_X7_chooseAll ml_7_190 p7_0 e7_0 rfl rfl rfl rfl rfl (Nat.le_of_ble_eq_true rfl) dX7_counted_11 ?_
      intro r11 hr11
      refine g_aload_n hX dX7_counted_14 rfl rfl ?_
      refine g_get hX fi_7_34 p7_0 e7_0 rfl dX7_counted_15 ?_
      refine g_iload_n hX dX7_counted_18 rfl rfl ?_
      refine g_iald hX p7_9 e7_9 dX7_counted_19 ?_
      intro x19 hx19
      exact g_iret hX (fun h => h) dX7_counted_20
  exact g r h hF

def f_X7_handed (mm : MM) (a1 : Int32) : Option (Int32 × MM) :=
  (f_X7_isPerson mm a1).bind fun x2 =>
  if x2 = 0 then
    some ((-1), mm)
  else
    (f_X7_choose mm).bind fun r11 =>
    (rd 16 (r11 10) a1).bind fun x19 =>
    if x19 = 0 then
      some (0, r11)
    else
      some (1, r11)

abbrev rm_X7_handed : Room := { frames := 6, cells := 0, slots := 0, locals := 136 }
set_option maxHeartbeats 2000000 in
set_option maxRecDepth 20000 in
theorem c_X7_handed {Z : ZC} {cm : CM} {mm : MM} {lm : LM} {a1 : Int32} {r : Int32 × MM}  (h : f_X7_handed mm a1 = some r) : Ct Z yX7_handed cX7_handed 2 (some .int) rm_X7_handed [.ref (ad Z 32 0), .int a1] cm mm lm (some (.int r.1)) cm r.2 lm := by
  refine Ct_of (own := RX7) [some (.ref (ad Z 32 0)), some (.int a1)] ⟨by decide, rfl⟩ rfl (Nat.le_of_ble_eq_true rfl) rfl (fun X hX hF => ?_)
  have g : G (fun r : Int32 × MM => Fx Z X (some .int) (some (.int r.1)) cm r.2 lm) (f_X7_handed mm a1) (J Z X 2 cm mm lm 0 [some (.ref (ad Z 32 0)), some (.int a1)] []) := by
    unfold f_X7_handed
    refine g_aload_n hX dX7_handed_0 rfl rfl ?_
    refine g_iload_n hX dX7_handed_1 rfl rfl ?_
    refine g_callV hX (As := [.int a1]) (fun r => (some (.int r))) (fun _ => cm) (fun _ => mm) (fun _ => lm) (fun r hr => c_X7_isPerson  hr) mi_X7_isPerson ml_7_92 p7_0 e7_0 rfl rfl rfl rfl rfl (Nat.le_of_ble_eq_true rfl) dX7_handed_2 ?_
    intro x2 hx2
    refine g_if_ne hX dX7_handed_5 (fun h5 => ?_) (fun h5 => ?_)
    · refine g_iconst hX dX7_handed_8 ic_m1 ?_
      exact g_iret hX (fun h => h) dX7_handed_9
    · refine g_aload_n hX dX7_handed_10 rfl rfl ?_
      refine g_callV hX (As := []) (fun _ => none) (fun _ => cm) (fun r => r) (fun _ => lm) (fun r hr => c_X7_choose  hr) mi_X7_choose ml_7_184 p7_0 e7_0 rfl rfl rfl rfl rfl (Nat.le_of_ble_eq_true rfl) dX7_handed_11 ?_
      intro r11 hr11
      refine g_aload_n hX dX7_handed_14 rfl rfl ?_
      refine g_get hX fi_7_37 p7_0 e7_0 rfl dX7_handed_15 ?_
      refine g_iload_n hX dX7_handed_18 rfl rfl ?_
      refine g_zald hX p7_10 e7_10 dX7_handed_19 ?_
      intro x19 hx19
      refine g_if_eq hX dX7_handed_20 (fun h20 => ?_) (fun h20 => ?_)
      · refine g_iconst hX dX7_handed_27 ic_0 ?_
        exact g_iret hX (fun h => h) dX7_handed_28
      · refine g_iconst hX dX7_handed_23 ic_1 ?_
        refine g_goto hX dX7_handed_24 ?_
        exact g_iret hX (fun h => h) dX7_handed_28
  exact g r h hF

def f_X7_taken_B31 (a1 : Int32) (a2 : Int32) (r23 : MM) (s31_3 : Int32) (s31_4 : Int32) : Option (((Int32 × Int32) ⊕ (Int32 × MM)) ⊕ (Int32 × Int32)) :=
  (rd 159 (r23 1) 157).bind fun x40 =>
  if x40 ≤ s31_4 then
    some (.inl (.inl (s31_3, s31_4)))
  else
    (rd 16 (r23 3) s31_4).bind fun x51 =>
    (f_X7_isTakenIn r23 x51 a1).bind fun x53 =>
    if x53 = 0 then
      some (.inr (s31_3, s31_4 + 1))
    else
      if s31_3 = a2 then
        (rd 16 (r23 3) s31_4).bind fun x70 =>
        some (.inl (.inr (x70, r23)))
      else
        some (.inr (s31_3 + 1, s31_4 + 1))

def f_X7_taken (mm : MM) (a1 a2 : Int32) : Option (Int32 × MM) :=
  (f_X7_isKind a1).bind fun x1 =>
  if x1 = 0 then
    some ((-1), mm)
  else
    (f_X7_within a2 0 8).bind fun x13 =>
    if x13 = 0 then
      some ((-2), mm)
    else
      (f_X7_choose mm).bind fun r23 =>
      (itr (fun s : Int32 × Int32 => f_X7_taken_B31 a1 a2 r23 s.1 s.2) 2000 (0, 0)).bind fun ou => match ou with
      | .inr r => some r
      | .inl (s31_3, s31_4) =>
      some ((-9), r23)

abbrev rm_X7_taken : Room := { frames := 6, cells := 0, slots := 0, locals := 136 }
set_option maxHeartbeats 2000000 in
set_option maxRecDepth 20000 in
theorem c_X7_taken {Z : ZC} {cm : CM} {mm : MM} {lm : LM} {a1 a2 : Int32} {r : Int32 × MM}  (h : f_X7_taken mm a1 a2 = some r) : Ct Z yX7_taken cX7_taken 5 (some .int) rm_X7_taken [.ref (ad Z 32 0), .int a1, .int a2] cm mm lm (some (.int r.1)) cm r.2 lm := by
  refine Ct_of (own := RX7) [some (.ref (ad Z 32 0)), some (.int a1), some (.int a2), none, none] ⟨by decide, rfl⟩ rfl (Nat.le_of_ble_eq_true rfl) rfl (fun X hX hF => ?_)
  have g : G (fun r : Int32 × MM => Fx Z X (some .int) (some (.int r.1)) cm r.2 lm) (f_X7_taken mm a1 a2) (J Z X 5 cm mm lm 0 [some (.ref (ad Z 32 0)), some (.int a1), some (.int a2), none, none] []) := by
    unfold f_X7_taken
    refine g_iload_n hX dX7_taken_0 rfl rfl ?_
    refine g_callS hX (As := [.int a1]) (fun r => (some (.int r))) (fun _ => cm) (fun _ => mm) (fun _ => lm) (fun r hr => c_X7_isKind  hr) mi_X7_isKind ml_7_80 rfl rfl rfl (Nat.le_of_ble_eq_true rfl) dX7_taken_1 ?_
    intro x1 hx1
    refine g_if_ne hX dX7_taken_4 (fun h4 => ?_) (fun h4 => ?_)
    · refine g_iconst hX dX7_taken_7 ic_m1 ?_
      exact g_iret hX (fun h => h) dX7_taken_8
    · refine g_iload_n hX dX7_taken_9 rfl rfl ?_
      refine g_iconst hX dX7_taken_10 ic_0 ?_
      refine g_bipush hX dX7_taken_11 bp_8 ?_
      refine g_callS hX (As := [.int a2, .int 0, .int 8]) (fun r => (some (.int r))) (fun _ => cm) (fun _ => mm) (fun _ => lm) (fun r hr => c_X7_within  hr) mi_X7_within ml_7_66 rfl rfl rfl (Nat.le_of_ble_eq_true rfl) dX7_taken_13 ?_
      intro x13 hx13
      refine g_if_ne hX dX7_taken_16 (fun h16 => ?_) (fun h16 => ?_)
      · refine g_bipush hX dX7_taken_19 bp_m2 ?_
        exact g_iret hX (fun h => h) dX7_taken_21
      · refine g_aload_n hX dX7_taken_22 rfl rfl ?_
        refine g_callV hX (As := []) (fun _ => none) (fun _ => cm) (fun r => r) (fun _ => lm) (fun r hr => c_X7_choose  hr) mi_X7_choose ml_7_184 p7_0 e7_0 rfl rfl rfl rfl rfl (Nat.le_of_ble_eq_true rfl) dX7_taken_23 ?_
        intro r23 hr23
        refine g_iconst hX dX7_taken_26 ic_0 ?_
        refine g_istore_n hX dX7_taken_27 rfl (Nat.le_of_ble_eq_true rfl) rfl ?_
        refine g_iconst hX dX7_taken_28 ic_0 ?_
        refine g_istore hX dX7_taken_29 (Nat.le_of_ble_eq_true rfl) rfl ?_
        refine g_loop (Hd := fun s : Int32 × Int32 => J Z X 5 cm r23 lm 31 [some (.ref (ad Z 32 0)), some (.int a1), some (.int a2), some (.int s.1), some (.int s.2)] []) (Ex := fun ou : (Int32 × Int32) ⊕ (Int32 × MM) => match ou with | .inl e => J Z X 5 cm r23 lm 81 [some (.ref (ad Z 32 0)), some (.int a1), some (.int a2), some (.int e.1), some (.int e.2)] [] | .inr r => Fx Z X (some .int) (some (.int r.1)) cm r.2 lm) ?_ ?_
        · rintro ⟨s31_3, s31_4⟩
          show G _ (f_X7_taken_B31 a1 a2 r23 s31_3 s31_4) (J Z X 5 cm r23 lm 31 [some (.ref (ad Z 32 0)), some (.int a1), some (.int a2), some (.int s31_3), some (.int s31_4)] [])
          unfold f_X7_taken_B31
          refine g_iload hX dX7_taken_31 rfl ?_
          refine g_aload_n hX dX7_taken_33 rfl rfl ?_
          refine g_get hX fi_7_7 p7_0 e7_0 rfl dX7_taken_34 ?_
          refine g_sipush hX dX7_taken_37 sp_157 ?_
          refine g_iald hX p7_1 e7_1 dX7_taken_40 ?_
          intro x40 hx40
          refine g_icmp_ge hX dX7_taken_41 (fun h41 => ?_) (fun h41 => ?_)
          · exact g_wk (lv0 := [some (.ref (ad Z 32 0)), some (.int a1), some (.int a2), some (.int s31_3), some (.int s31_4)]) ⟨rfl, rfl, rfl, rfl, rfl, trivial⟩ (g_end (fun h => h))
          · refine g_aload_n hX dX7_taken_44 rfl rfl ?_
            refine g_aload_n hX dX7_taken_45 rfl rfl ?_
            refine g_get hX fi_7_16 p7_0 e7_0 rfl dX7_taken_46 ?_
            refine g_iload hX dX7_taken_49 rfl ?_
            refine g_iald hX p7_3 e7_3 dX7_taken_51 ?_
            intro x51 hx51
            refine g_iload_n hX dX7_taken_52 rfl rfl ?_
            refine g_callV hX (As := [.int x51, .int a1]) (fun r => (some (.int r))) (fun _ => cm) (fun _ => r23) (fun _ => lm) (fun r hr => c_X7_isTakenIn  hr) mi_X7_isTakenIn ml_7_163 p7_0 e7_0 rfl rfl rfl rfl rfl (Nat.le_of_ble_eq_true rfl) dX7_taken_53 ?_
            intro x53 hx53
            refine g_if_eq hX dX7_taken_56 (fun h56 => ?_) (fun h56 => ?_)
            · refine g_iinc hX dX7_taken_75 ic_1 rfl (Nat.le_of_ble_eq_true rfl) rfl ?_
              refine g_goto hX dX7_taken_78 ?_
              exact g_wk (lv0 := [some (.ref (ad Z 32 0)), some (.int a1), some (.int a2), some (.int s31_3), some (.int (s31_4 + 1))]) ⟨rfl, rfl, rfl, rfl, rfl, trivial⟩ (g_end (fun h => h))
            · refine g_iload_n hX dX7_taken_59 rfl rfl ?_
              refine g_iload_n hX dX7_taken_60 rfl rfl ?_
              refine g_icmp_ne hX dX7_taken_61 (fun h61 => ?_) (fun h61 => ?_)
              · refine g_aload_n hX dX7_taken_64 rfl rfl ?_
                refine g_get hX fi_7_16 p7_0 e7_0 rfl dX7_taken_65 ?_
                refine g_iload hX dX7_taken_68 rfl ?_
                refine g_iald hX p7_3 e7_3 dX7_taken_70 ?_
                intro x70 hx70
                exact g_iret hX (fun h => h) dX7_taken_71
              · refine g_iinc hX dX7_taken_72 ic_1 rfl (Nat.le_of_ble_eq_true rfl) rfl ?_
                refine g_iinc hX dX7_taken_75 ic_1 rfl (Nat.le_of_ble_eq_true rfl) rfl ?_
                refine g_goto hX dX7_taken_78 ?_
                exact g_wk (lv0 := [some (.ref (ad Z 32 0)), some (.int a1), some (.int a2), some (.int (s31_3 + 1)), some (.int (s31_4 + 1))]) ⟨rfl, rfl, rfl, rfl, rfl, trivial⟩ (g_end (fun h => h))
        · rintro (⟨s31_3, s31_4⟩ | r)
          · show G _ _ (J Z X 5 cm r23 lm 81 [some (.ref (ad Z 32 0)), some (.int a1), some (.int a2), some (.int s31_3), some (.int s31_4)] [])
            refine g_bipush hX dX7_taken_81 bp_m9 ?_
            exact g_iret hX (fun h => h) dX7_taken_83
          · exact g_end (fun h => h)
  exact g r h hF

def f_X7_fillOf_B15 (a1 : Int32) (s15_2 : Int32) (m15_ : MM) : Option ((Int32 × MM) ⊕ (Int32 × MM)) :=
  (rd 159 (m15_ 1) 157).bind fun x23 =>
  if x23 ≤ s15_2 then
    some (.inl (s15_2, m15_))
  else
    (f_X7_isTakenIn m15_ s15_2 a1).bind fun x30 =>
    if x30 = 0 then
      some (.inr (s15_2 + 1, m15_))
    else
      (f_X7_addOther m15_ s15_2 1).bind fun r39 =>
      some (.inr (s15_2 + 1, r39))

def f_X7_fillOf (mm : MM) (a1 : Int32) : Option (Int32 × MM) :=
  (f_X7_leaveAll mm a1).bind fun r2 =>
  (f_X7_sumHave r2).bind fun r6 =>
  (f_X7_noOthers r6).bind fun r10 =>
  (itr (fun s : Int32 × MM => f_X7_fillOf_B15 a1 s.1 s.2) 2000 (0, r10)).bind fun (s15_2, m15_) =>
  (f_X7_leastCut m15_ (-9)).bind fun x51 =>
  some (x51, m15_)

abbrev rm_X7_fillOf : Room := { frames := 2, cells := 0, slots := 0, locals := 45 }
set_option maxHeartbeats 2000000 in
set_option maxRecDepth 20000 in
theorem c_X7_fillOf {Z : ZC} {cm : CM} {mm : MM} {lm : LM} {a1 : Int32} {r : Int32 × MM}  (h : f_X7_fillOf mm a1 = some r) : Ct Z yX7_fillOf cX7_fillOf 3 (some .int) rm_X7_fillOf [.ref (ad Z 32 0), .int a1] cm mm lm (some (.int r.1)) cm r.2 lm := by
  refine Ct_of (own := RX7) [some (.ref (ad Z 32 0)), some (.int a1), none] ⟨by decide, rfl⟩ rfl (Nat.le_of_ble_eq_true rfl) rfl (fun X hX hF => ?_)
  have g : G (fun r : Int32 × MM => Fx Z X (some .int) (some (.int r.1)) cm r.2 lm) (f_X7_fillOf mm a1) (J Z X 3 cm mm lm 0 [some (.ref (ad Z 32 0)), some (.int a1), none] []) := by
    unfold f_X7_fillOf
    refine g_aload_n hX dX7_fillOf_0 rfl rfl ?_
    refine g_iload_n hX dX7_fillOf_1 rfl rfl ?_
    refine g_callV hX (As := [.int a1]) (fun _ => none) (fun _ => cm) (fun r => r) (fun _ => lm) (fun r hr => c_X7_leaveAll  hr) mi_X7_leaveAll ml_7_132 p7_0 e7_0 rfl rfl rfl rfl rfl (Nat.le_of_ble_eq_true rfl) dX7_fillOf_2 ?_
    intro r2 hr2
    refine g_aload_n hX dX7_fillOf_5 rfl rfl ?_
    refine g_callV hX (As := []) (fun _ => none) (fun _ => cm) (fun r => r) (fun _ => lm) (fun r hr => c_X7_sumHave  hr) mi_X7_sumHave ml_7_135 p7_0 e7_0 rfl rfl rfl rfl rfl (Nat.le_of_ble_eq_true rfl) dX7_fillOf_6 ?_
    intro r6 hr6
    refine g_aload_n hX dX7_fillOf_9 rfl rfl ?_
    refine g_callV hX (As := []) (fun _ => none) (fun _ => cm) (fun r => r) (fun _ => lm) (fun r hr => c_X7_noOthers  hr) mi_X7_noOthers ml_7_138 p7_0 e7_0 rfl rfl rfl rfl rfl (Nat.le_of_ble_eq_true rfl) dX7_fillOf_10 ?_
    intro r10 hr10
    refine g_iconst hX dX7_fillOf_13 ic_0 ?_
    refine g_istore_n hX dX7_fillOf_14 rfl (Nat.le_of_ble_eq_true rfl) rfl ?_
    refine g_loop (Hd := fun s : Int32 × MM => J Z X 3 cm s.2 lm 15 [some (.ref (ad Z 32 0)), some (.int a1), some (.int s.1)] []) (Ex := fun s : Int32 × MM => J Z X 3 cm s.2 lm 48 [some (.ref (ad Z 32 0)), some (.int a1), some (.int s.1)] []) ?_ ?_
    · rintro ⟨s15_2, m15_⟩
      show G _ (f_X7_fillOf_B15 a1 s15_2 m15_) (J Z X 3 cm m15_ lm 15 [some (.ref (ad Z 32 0)), some (.int a1), some (.int s15_2)] [])
      unfold f_X7_fillOf_B15
      refine g_iload_n hX dX7_fillOf_15 rfl rfl ?_
      refine g_aload_n hX dX7_fillOf_16 rfl rfl ?_
      refine g_get hX fi_7_7 p7_0 e7_0 rfl dX7_fillOf_17 ?_
      refine g_sipush hX dX7_fillOf_20 sp_157 ?_
      refine g_iald hX p7_1 e7_1 dX7_fillOf_23 ?_
      intro x23 hx23
      refine g_icmp_ge hX dX7_fillOf_24 (fun h24 => ?_) (fun h24 => ?_)
      · exact g_wk (lv0 := [some (.ref (ad Z 32 0)), some (.int a1), some (.int s15_2)]) ⟨rfl, rfl, rfl, trivial⟩ (g_end (fun h => h))
      · refine g_aload_n hX dX7_fillOf_27 rfl rfl ?_
        refine g_iload_n hX dX7_fillOf_28 rfl rfl ?_
        refine g_iload_n hX dX7_fillOf_29 rfl rfl ?_
        refine g_callV hX (As := [.int s15_2, .int a1]) (fun r => (some (.int r))) (fun _ => cm) (fun _ => m15_) (fun _ => lm) (fun r hr => c_X7_isTakenIn  hr) mi_X7_isTakenIn ml_7_163 p7_0 e7_0 rfl rfl rfl rfl rfl (Nat.le_of_ble_eq_true rfl) dX7_fillOf_30 ?_
        intro x30 hx30
        refine g_if_eq hX dX7_fillOf_33 (fun h33 => ?_) (fun h33 => ?_)
        · refine g_iinc hX dX7_fillOf_42 ic_1 rfl (Nat.le_of_ble_eq_true rfl) rfl ?_
          refine g_goto hX dX7_fillOf_45 ?_
          exact g_wk (lv0 := [some (.ref (ad Z 32 0)), some (.int a1), some (.int (s15_2 + 1))]) ⟨rfl, rfl, rfl, trivial⟩ (g_end (fun h => h))
        · refine g_aload_n hX dX7_fillOf_36 rfl rfl ?_
          refine g_iload_n hX dX7_fillOf_37 rfl rfl ?_
          refine g_iconst hX dX7_fillOf_38 ic_1 ?_
          refine g_callV hX (As := [.int s15_2, .int 1]) (fun _ => none) (fun _ => cm) (fun r => r) (fun _ => lm) (fun r hr => c_X7_addOther  hr) mi_X7_addOther ml_7_147 p7_0 e7_0 rfl rfl rfl rfl rfl (Nat.le_of_ble_eq_true rfl) dX7_fillOf_39 ?_
          intro r39 hr39
          refine g_iinc hX dX7_fillOf_42 ic_1 rfl (Nat.le_of_ble_eq_true rfl) rfl ?_
          refine g_goto hX dX7_fillOf_45 ?_
          exact g_wk (lv0 := [some (.ref (ad Z 32 0)), some (.int a1), some (.int (s15_2 + 1))]) ⟨rfl, rfl, rfl, trivial⟩ (g_end (fun h => h))
    · rintro ⟨s15_2, m15_⟩
      show G _ _ (J Z X 3 cm m15_ lm 48 [some (.ref (ad Z 32 0)), some (.int a1), some (.int s15_2)] [])
      refine g_aload_n hX dX7_fillOf_48 rfl rfl ?_
      refine g_bipush hX dX7_fillOf_49 bp_m9 ?_
      refine g_callV hX (As := [.int (-9)]) (fun r => (some (.int r))) (fun _ => cm) (fun _ => m15_) (fun _ => lm) (fun r hr => c_X7_leastCut  hr) mi_X7_leastCut ml_7_144 p7_0 e7_0 rfl rfl rfl rfl rfl (Nat.le_of_ble_eq_true rfl) dX7_fillOf_51 ?_
      intro x51 hx51
      exact g_iret hX (fun h => h) dX7_fillOf_54
  exact g r h hF

def f_X7_countedIn_B5 (mm : MM) (a1 : Int32) (a2 : Int32) (s5_3 : Int32) (s5_4 : Int32) : Option ((Int32 × Int32) ⊕ (Int32 × Int32)) :=
  (rd 159 (mm 1) 157).bind fun x14 =>
  if x14 ≤ s5_4 then
    some (.inl (s5_3, s5_4))
  else
    (f_X7_isTakenIn mm s5_4 a1).bind fun x22 =>
    ((if x22 = 0 then
        some 0
      else
        (rd 16 (mm 9) s5_4).bind fun x34 =>
        if x34 = (-9) then
          some 0
        else
          some 1) : Option (Int32)).bind fun k45_0 =>
    if k45_0 = 0 then
      some (.inr (s5_3 + 0, s5_4 + 1))
    else
      if a2 = (-9) then
        some (.inr (s5_3 + 1, s5_4 + 1))
      else
        (rd 16 (mm 9) s5_4).bind fun x65 =>
        if x65 = a2 then
          some (.inr (s5_3 + 1, s5_4 + 1))
        else
          some (.inr (s5_3 + 0, s5_4 + 1))

def f_X7_countedIn (mm : MM) (a1 a2 : Int32) : Option (Int32) :=
  (itr (fun s : Int32 × Int32 => f_X7_countedIn_B5 mm a1 a2 s.1 s.2) 2000 (0, 0)).bind fun (s5_3, s5_4) =>
  some s5_3

abbrev rm_X7_countedIn : Room := { frames := 1, cells := 0, slots := 0, locals := 22 }
set_option maxHeartbeats 2000000 in
set_option maxRecDepth 20000 in
theorem c_X7_countedIn {Z : ZC} {cm : CM} {mm : MM} {lm : LM} {a1 a2 : Int32} {r : Int32}  (h : f_X7_countedIn mm a1 a2 = some r) : Ct Z yX7_countedIn cX7_countedIn 6 (some .int) rm_X7_countedIn [.ref (ad Z 32 0), .int a1, .int a2] cm mm lm (some (.int r)) cm mm lm := by
  refine Ct_of (own := RX7) [some (.ref (ad Z 32 0)), some (.int a1), some (.int a2), none, none, none] ⟨by decide, rfl⟩ rfl (Nat.le_of_ble_eq_true rfl) rfl (fun X hX hF => ?_)
  have g : G (fun r : Int32 => Fx Z X (some .int) (some (.int r)) cm mm lm) (f_X7_countedIn mm a1 a2) (J Z X 6 cm mm lm 0 [some (.ref (ad Z 32 0)), some (.int a1), some (.int a2), none, none, none] []) := by
    unfold f_X7_countedIn
    refine g_iconst hX dX7_countedIn_0 ic_0 ?_
    refine g_istore_n hX dX7_countedIn_1 rfl (Nat.le_of_ble_eq_true rfl) rfl ?_
    refine g_iconst hX dX7_countedIn_2 ic_0 ?_
    refine g_istore hX dX7_countedIn_3 (Nat.le_of_ble_eq_true rfl) rfl ?_
    refine g_loop (Hd := fun s : Int32 × Int32 => J Z X 6 cm mm lm 5 [some (.ref (ad Z 32 0)), some (.int a1), some (.int a2), some (.int s.1), some (.int s.2), none] []) (Ex := fun s : Int32 × Int32 => J Z X 6 cm mm lm 83 [some (.ref (ad Z 32 0)), some (.int a1), some (.int a2), some (.int s.1), some (.int s.2), none] []) ?_ ?_
    · rintro ⟨s5_3, s5_4⟩
      show G _ (f_X7_countedIn_B5 mm a1 a2 s5_3 s5_4) (J Z X 6 cm mm lm 5 [some (.ref (ad Z 32 0)), some (.int a1), some (.int a2), some (.int s5_3), some (.int s5_4), none] [])
      unfold f_X7_countedIn_B5
      refine g_iload hX dX7_countedIn_5 rfl ?_
      refine g_aload_n hX dX7_countedIn_7 rfl rfl ?_
      refine g_get hX fi_7_7 p7_0 e7_0 rfl dX7_countedIn_8 ?_
      refine g_sipush hX dX7_countedIn_11 sp_157 ?_
      refine g_iald hX p7_1 e7_1 dX7_countedIn_14 ?_
      intro x14 hx14
      refine g_icmp_ge hX dX7_countedIn_15 (fun h15 => ?_) (fun h15 => ?_)
      · exact g_wk (lv0 := [some (.ref (ad Z 32 0)), some (.int a1), some (.int a2), some (.int s5_3), some (.int s5_4), none]) ⟨rfl, rfl, rfl, rfl, rfl, trivial⟩ (g_end (fun h => h))
      · refine g_aload_n hX dX7_countedIn_18 rfl rfl ?_
        refine g_iload hX dX7_countedIn_19 rfl ?_
        refine g_iload_n hX dX7_countedIn_21 rfl rfl ?_
        refine g_callV hX (As := [.int s5_4, .int a1]) (fun r => (some (.int r))) (fun _ => cm) (fun _ => mm) (fun _ => lm) (fun r hr => c_X7_isTakenIn  hr) mi_X7_isTakenIn ml_7_163 p7_0 e7_0 rfl rfl rfl rfl rfl (Nat.le_of_ble_eq_true rfl) dX7_countedIn_22 ?_
        intro x22 hx22
        refine g_bind (fun v : Int32 => J Z X 6 cm mm lm 45 [some (.ref (ad Z 32 0)), some (.int a1), some (.int a2), some (.int s5_3), some (.int s5_4), none] [.int v]) ?_ ?_
        · refine g_if_eq hX dX7_countedIn_25 (fun h25 => ?_) (fun h25 => ?_)
          · refine g_iconst hX dX7_countedIn_44 ic_0 ?_
            exact g_wk (lv0 := [some (.ref (ad Z 32 0)), some (.int a1), some (.int a2), some (.int s5_3), some (.int s5_4), none]) ⟨rfl, rfl, rfl, rfl, rfl, trivial⟩ (g_end (fun h => h))
          · refine g_aload_n hX dX7_countedIn_28 rfl rfl ?_
            refine g_get hX fi_7_34 p7_0 e7_0 rfl dX7_countedIn_29 ?_
            refine g_iload hX dX7_countedIn_32 rfl ?_
            refine g_iald hX p7_9 e7_9 dX7_countedIn_34 ?_
            intro x34 hx34
            refine g_bipush hX dX7_countedIn_35 bp_m9 ?_
            refine g_icmp_eq hX dX7_countedIn_37 (fun h37 => ?_) (fun h37 => ?_)
            · refine g_iconst hX dX7_countedIn_44 ic_0 ?_
              exact g_wk (lv0 := [some (.ref (ad Z 32 0)), some (.int a1), some (.int a2), some (.int s5_3), some (.int s5_4), none]) ⟨rfl, rfl, rfl, rfl, rfl, trivial⟩ (g_end (fun h => h))
            · refine g_iconst hX dX7_countedIn_40 ic_1 ?_
              refine g_goto hX dX7_countedIn_41 ?_
              exact g_wk (lv0 := [some (.ref (ad Z 32 0)), some (.int a1), some (.int a2), some (.int s5_3), some (.int s5_4), none]) ⟨rfl, rfl, rfl, rfl, rfl, trivial⟩ (g_end (fun h => h))
        · intro k45_0
          show G _ _ (J Z X 6 cm mm lm 45 [some (.ref (ad Z 32 0)), some (.int a1), some (.int a2), some (.int s5_3), some (.int s5_4), none] [.int k45_0])
          refine g_istore hX dX7_countedIn_45 (Nat.le_of_ble_eq_true rfl) rfl ?_
          refine g_iload_n hX dX7_countedIn_47 rfl rfl ?_
          refine g_iload hX dX7_countedIn_48 rfl ?_
          refine g_if_eq hX dX7_countedIn_50 (fun h50 => ?_) (fun h50 => ?_)
          · refine g_iconst hX dX7_countedIn_74 ic_0 ?_
            refine g_iadd hX dX7_countedIn_75 ?_
            refine g_istore_n hX dX7_countedIn_76 rfl (Nat.le_of_ble_eq_true rfl) rfl ?_
            refine g_iinc hX dX7_countedIn_77 ic_1 rfl (Nat.le_of_ble_eq_true rfl) rfl ?_
            refine g_goto hX dX7_countedIn_80 ?_
            exact g_wk (lv0 := [some (.ref (ad Z 32 0)), some (.int a1), some (.int a2), some (.int (s5_3 + 0)), some (.int (s5_4 + 1)), none]) ⟨rfl, rfl, rfl, rfl, rfl, trivial⟩ (g_end (fun h => h))
          · refine g_iload_n hX dX7_countedIn_53 rfl rfl ?_
            refine g_bipush hX dX7_countedIn_54 bp_m9 ?_
            refine g_icmp_eq hX dX7_countedIn_56 (fun h56 => ?_) (fun h56 => ?_)
            · refine g_iconst hX dX7_countedIn_70 ic_1 ?_
              refine g_goto hX dX7_countedIn_71 ?_
              refine g_iadd hX dX7_countedIn_75 ?_
              refine g_istore_n hX dX7_countedIn_76 rfl (Nat.le_of_ble_eq_true rfl) rfl ?_
              refine g_iinc hX dX7_countedIn_77 ic_1 rfl (Nat.le_of_ble_eq_true rfl) rfl ?_
              refine g_goto hX dX7_countedIn_80 ?_
              exact g_wk (lv0 := [some (.ref (ad Z 32 0)), some (.int a1), some (.int a2), some (.int (s5_3 + 1)), some (.int (s5_4 + 1)), none]) ⟨rfl, rfl, rfl, rfl, rfl, trivial⟩ (g_end (fun h => h))
            · refine g_aload_n hX dX7_countedIn_59 rfl rfl ?_
              refine g_get hX fi_7_34 p7_0 e7_0 rfl dX7_countedIn_60 ?_
              refine g_iload hX dX7_countedIn_63 rfl ?_
              refine g_iald hX p7_9 e7_9 dX7_countedIn_65 ?_
              intro x65 hx65
              refine g_iload_n hX dX7_countedIn_66 rfl rfl ?_
              refine g_icmp_ne hX dX7_countedIn_67 (fun h67 => ?_) (fun h67 => ?_)
              · refine g_iconst hX dX7_countedIn_70 ic_1 ?_
                refine g_goto hX dX7_countedIn_71 ?_
                refine g_iadd hX dX7_countedIn_75 ?_
                refine g_istore_n hX dX7_countedIn_76 rfl (Nat.le_of_ble_eq_true rfl) rfl ?_
                refine g_iinc hX dX7_countedIn_77 ic_1 rfl (Nat.le_of_ble_eq_true rfl) rfl ?_
                refine g_goto hX dX7_countedIn_80 ?_
                exact g_wk (lv0 := [some (.ref (ad Z 32 0)), some (.int a1), some (.int a2), some (.int (s5_3 + 1)), some (.int (s5_4 + 1)), none]) ⟨rfl, rfl, rfl, rfl, rfl, trivial⟩ (g_end (fun h => h))
              · refine g_iconst hX dX7_countedIn_74 ic_0 ?_
                refine g_iadd hX dX7_countedIn_75 ?_
                refine g_istore_n hX dX7_countedIn_76 rfl (Nat.le_of_ble_eq_true rfl) rfl ?_
                refine g_iinc hX dX7_countedIn_77 ic_1 rfl (Nat.le_of_ble_eq_true rfl) rfl ?_
                refine g_goto hX dX7_countedIn_80 ?_
                exact g_wk (lv0 := [some (.ref (ad Z 32 0)), some (.int a1), some (.int a2), some (.int (s5_3 + 0)), some (.int (s5_4 + 1)), none]) ⟨rfl, rfl, rfl, rfl, rfl, trivial⟩ (g_end (fun h => h))
    · rintro ⟨s5_3, s5_4⟩
      show G _ _ (J Z X 6 cm mm lm 83 [some (.ref (ad Z 32 0)), some (.int a1), some (.int a2), some (.int s5_3), some (.int s5_4), none] [])
      refine g_iload_n hX dX7_countedIn_83 rfl rfl ?_
      exact g_iret hX (fun h => h) dX7_countedIn_84
  exact g r h hF

def f_X7_worstMark_B5 (mm : MM) (a1 : Int32) (s5_2 : Int32) (s5_3 : Int32) : Option ((Int32 × Int32) ⊕ (Int32 × Int32)) :=
  (rd 159 (mm 1) 157).bind fun x13 =>
  if x13 ≤ s5_3 then
    some (.inl (s5_2, s5_3))
  else
    (rd 16 (mm 3) s5_3).bind fun x23 =>
    (f_X7_isTakenIn mm x23 a1).bind fun x25 =>
    if x25 = 0 then
      some (.inr (s5_2, s5_3 + 1))
    else
      (rd 16 (mm 3) s5_3).bind fun x37 =>
      (f_X7_of mm x37 0).bind fun x39 =>
      some (.inr (x39, s5_3 + 1))

def f_X7_worstMark (mm : MM) (a1 : Int32) : Option (Int32) :=
  (itr (fun s : Int32 × Int32 => f_X7_worstMark_B5 mm a1 s.1 s.2) 2000 ((-9), 0)).bind fun (s5_2, s5_3) =>
  some s5_2

abbrev rm_X7_worstMark : Room := { frames := 1, cells := 0, slots := 0, locals := 22 }
set_option maxHeartbeats 2000000 in
set_option maxRecDepth 20000 in
theorem c_X7_worstMark {Z : ZC} {cm : CM} {mm : MM} {lm : LM} {a1 : Int32} {r : Int32}  (h : f_X7_worstMark mm a1 = some r) : Ct Z yX7_worstMark cX7_worstMark 4 (some .int) rm_X7_worstMark [.ref (ad Z 32 0), .int a1] cm mm lm (some (.int r)) cm mm lm := by
  refine Ct_of (own := RX7) [some (.ref (ad Z 32 0)), some (.int a1), none, none] ⟨by decide, rfl⟩ rfl (Nat.le_of_ble_eq_true rfl) rfl (fun X hX hF => ?_)
  have g : G (fun r : Int32 => Fx Z X (some .int) (some (.int r)) cm mm lm) (f_X7_worstMark mm a1) (J Z X 4 cm mm lm 0 [some (.ref (ad Z 32 0)), some (.int a1), none, none] []) := by
    unfold f_X7_worstMark
    refine g_bipush hX dX7_worstMark_0 bp_m9 ?_
    refine g_istore_n hX dX7_worstMark_2 rfl (Nat.le_of_ble_eq_true rfl) rfl ?_
    refine g_iconst hX dX7_worstMark_3 ic_0 ?_
    refine g_istore_n hX dX7_worstMark_4 rfl (Nat.le_of_ble_eq_true rfl) rfl ?_
    refine g_loop (Hd := fun s : Int32 × Int32 => J Z X 4 cm mm lm 5 [some (.ref (ad Z 32 0)), some (.int a1), some (.int s.1), some (.int s.2)] []) (Ex := fun s : Int32 × Int32 => J Z X 4 cm mm lm 53 [some (.ref (ad Z 32 0)), some (.int a1), some (.int s.1), some (.int s.2)] []) ?_ ?_
    · rintro ⟨s5_2, s5_3⟩
      show G _ (f_X7_worstMark_B5 mm a1 s5_2 s5_3) (J Z X 4 cm mm lm 5 [some (.ref (ad Z 32 0)), some (.int a1), some (.int s5_2), some (.int s5_3)] [])
      unfold f_X7_worstMark_B5
      refine g_iload_n hX dX7_worstMark_5 rfl rfl ?_
      refine g_aload_n hX dX7_worstMark_6 rfl rfl ?_
      refine g_get hX fi_7_7 p7_0 e7_0 rfl dX7_worstMark_7 ?_
      refine g_sipush hX dX7_worstMark_10 sp_157 ?_
      refine g_iald hX p7_1 e7_1 dX7_worstMark_13 ?_
      intro x13 hx13
      refine g_icmp_ge hX dX7_worstMark_14 (fun h14 => ?_) (fun h14 => ?_)
      · exact g_wk (lv0 := [some (.ref (ad Z 32 0)), some (.int a1), some (.int s5_2), some (.int s5_3)]) ⟨rfl, rfl, rfl, rfl, trivial⟩ (g_end (fun h => h))
      · refine g_aload_n hX dX7_worstMark_17 rfl rfl ?_
        refine g_aload_n hX dX7_worstMark_18 rfl rfl ?_
        refine g_get hX fi_7_16 p7_0 e7_0 rfl dX7_worstMark_19 ?_
        refine g_iload_n hX dX7_worstMark_22 rfl rfl ?_
        refine g_iald hX p7_3 e7_3 dX7_worstMark_23 ?_
        intro x23 hx23
        refine g_iload_n hX dX7_worstMark_24 rfl rfl ?_
        refine g_callV hX (As := [.int x23, .int a1]) (fun r => (some (.int r))) (fun _ => cm) (fun _ => mm) (fun _ => lm) (fun r hr => c_X7_isTakenIn  hr) mi_X7_isTakenIn ml_7_163 p7_0 e7_0 rfl rfl rfl rfl rfl (Nat.le_of_ble_eq_true rfl) dX7_worstMark_25 ?_
        intro x25 hx25
        refine g_if_eq hX dX7_worstMark_28 (fun h28 => ?_) (fun h28 => ?_)
        · refine g_iload_n hX dX7_worstMark_45 rfl rfl ?_
          refine g_istore_n hX dX7_worstMark_46 rfl (Nat.le_of_ble_eq_true rfl) rfl ?_
          refine g_iinc hX dX7_worstMark_47 ic_1 rfl (Nat.le_of_ble_eq_true rfl) rfl ?_
          refine g_goto hX dX7_worstMark_50 ?_
          exact g_wk (lv0 := [some (.ref (ad Z 32 0)), some (.int a1), some (.int s5_2), some (.int (s5_3 + 1))]) ⟨rfl, rfl, rfl, rfl, trivial⟩ (g_end (fun h => h))
        · refine g_aload_n hX dX7_worstMark_31 rfl rfl ?_
          refine g_aload_n hX dX7_worstMark_32 rfl rfl ?_
          refine g_get hX fi_7_16 p7_0 e7_0 rfl dX7_worstMark_33 ?_
          refine g_iload_n hX dX7_worstMark_36 rfl rfl ?_
          refine g_iald hX p7_3 e7_3 dX7_worstMark_37 ?_
          intro x37 hx37
          refine g_iconst hX dX7_worstMark_38 ic_0 ?_
          refine g_callV hX (As := [.int x37, .int 0]) (fun r => (some (.int r))) (fun _ => cm) (fun _ => mm) (fun _ => lm) (fun r hr => c_X7_of  hr) mi_X7_of ml_7_103 p7_0 e7_0 rfl rfl rfl rfl rfl (Nat.le_of_ble_eq_true rfl) dX7_worstMark_39 ?_
          intro x39 hx39
          refine g_goto hX dX7_worstMark_42 ?_
          refine g_istore_n hX dX7_worstMark_46 rfl (Nat.le_of_ble_eq_true rfl) rfl ?_
          refine g_iinc hX dX7_worstMark_47 ic_1 rfl (Nat.le_of_ble_eq_true rfl) rfl ?_
          refine g_goto hX dX7_worstMark_50 ?_
          exact g_wk (lv0 := [some (.ref (ad Z 32 0)), some (.int a1), some (.int x39), some (.int (s5_3 + 1))]) ⟨rfl, rfl, rfl, rfl, trivial⟩ (g_end (fun h => h))
    · rintro ⟨s5_2, s5_3⟩
      show G _ _ (J Z X 4 cm mm lm 53 [some (.ref (ad Z 32 0)), some (.int a1), some (.int s5_2), some (.int s5_3)] [])
      refine g_iload_n hX dX7_worstMark_53 rfl rfl ?_
      exact g_iret hX (fun h => h) dX7_worstMark_54
  exact g r h hF

def f_X7_ofKind (mm : MM) (a1 a2 : Int32) : Option (Int32 × MM) :=
  (f_X7_isKind a1).bind fun x1 =>
  if x1 = 0 then
    some ((-1), mm)
  else
    (f_X7_within a2 0 5).bind fun x12 =>
    if x12 = 0 then
      (f_X7_within a2 10 13).bind fun x23 =>
      if x23 = 0 then
        (f_X7_within a2 20 23).bind fun x34 =>
        if x34 = 0 then
          some ((-2), mm)
        else
          (f_X7_chooseAll mm).bind fun r44 =>
          if a2 = 0 then
            (rd 4 (r44 4) a1).bind fun x93 =>
            some (x93, r44)
          else
          if a2 = 1 then
            (rd 4 (r44 6) a1).bind fun x100 =>
            some (x100, r44)
          else
          if a2 = 2 then
            (f_X7_countedIn r44 a1 (-9)).bind fun x106 =>
            some (x106, r44)
          else
          if a2 = 3 then
            (rd 4 (r44 7) a1).bind fun x115 =>
            some (x115, r44)
          else
          if a2 = 4 then
            (f_X7_worstMark r44 a1).bind fun x119 =>
            some (x119, r44)
          else
          if a2 = 5 then
            (f_X7_fillOf r44 a1).bind fun r125 =>
            some (r125.1, r125.2)
          else
          if 20 ≤ a2 then
            (f_X7_countedIn r44 a1 (a2 - 20)).bind fun x157 =>
            some (x157, r44)
          else
            (rd 16 (r44 5) (((4 * a1) + a2) - 10)).bind fun x147 =>
            some (x147, r44)
      else
        (f_X7_chooseAll mm).bind fun r44 =>
        if a2 = 0 then
          (rd 4 (r44 4) a1).bind fun x93 =>
          some (x93, r44)
        else
        if a2 = 1 then
          (rd 4 (r44 6) a1).bind fun x100 =>
          some (x100, r44)
        else
        if a2 = 2 then
          (f_X7_countedIn r44 a1 (-9)).bind fun x106 =>
          some (x106, r44)
        else
        if a2 = 3 then
          (rd 4 (r44 7) a1).bind fun x115 =>
          some (x115, r44)
        else
        if a2 = 4 then
          (f_X7_worstMark r44 a1).bind fun x119 =>
          some (x119, r44)
        else
        if a2 = 5 then
          (f_X7_fillOf r44 a1).bind fun r125 =>
          some (r125.1, r125.2)
        else
        if 20 ≤ a2 then
          (f_X7_countedIn r44 a1 (a2 - 20)).bind fun x157 =>
          some (x157, r44)
        else
          (rd 16 (r44 5) (((4 * a1) + a2) - 10)).bind fun x147 =>
          some (x147, r44)
    else
      (f_X7_chooseAll mm).bind fun r44 =>
      if a2 = 0 then
        (rd 4 (r44 4) a1).bind fun x93 =>
        some (x93, r44)
      else
      if a2 = 1 then
        (rd 4 (r44 6) a1).bind fun x100 =>
        some (x100, r44)
      else
      if a2 = 2 then
        (f_X7_countedIn r44 a1 (-9)).bind fun x106 =>
        some (x106, r44)
      else
      if a2 = 3 then
        (rd 4 (r44 7) a1).bind fun x115 =>
        some (x115, r44)
      else
      if a2 = 4 then
        (f_X7_worstMark r44 a1).bind fun x119 =>
        some (x119, r44)
      else
      if a2 = 5 then
        (f_X7_fillOf r44 a1).bind fun r125 =>
        some (r125.1, r125.2)
      else
      if 20 ≤ a2 then
        (f_X7_countedIn r44 a1 (a2 - 20)).bind fun x157 =>
        some (x157, r44)
      else
        (rd 16 (r44 5) (((4 * a1) + a2) - 10)).bind fun x147 =>
        some (x147, r44)

abbrev rm_X7_ofKind : Room := { frames := 7, cells := 0, slots := 0, locals := 157 }
set_option maxHeartbeats 2000000 in
set_option maxRecDepth 20000 in
theorem c_X7_ofKind {Z : ZC} {cm : CM} {mm : MM} {lm : LM} {a1 a2 : Int32} {r : Int32 × MM}  (h : f_X7_ofKind mm a1 a2 = some r) : Ct Z yX7_ofKind cX7_ofKind 3 (some .int) rm_X7_ofKind [.ref (ad Z 32 0), .int a1, .int a2] cm mm lm (some (.int r.1)) cm r.2 lm := by
  refine Ct_of (own := RX7) [some (.ref (ad Z 32 0)), some (.int a1), some (.int a2)] ⟨by decide, rfl⟩ rfl (Nat.le_of_ble_eq_true rfl) rfl (fun X hX hF => ?_)
  have g : G (fun r : Int32 × MM => Fx Z X (some .int) (some (.int r.1)) cm r.2 lm) (f_X7_ofKind mm a1 a2) (J Z X 3 cm mm lm 0 [some (.ref (ad Z 32 0)), some (.int a1), some (.int a2)] []) := by
    unfold f_X7_ofKind
    refine g_iload_n hX dX7_ofKind_0 rfl rfl ?_
    refine g_callS hX (As := [.int a1]) (fun r => (some (.int r))) (fun _ => cm) (fun _ => mm) (fun _ => lm) (fun r hr => c_X7_isKind  hr) mi_X7_isKind ml_7_80 rfl rfl rfl (Nat.le_of_ble_eq_true rfl) dX7_ofKind_1 ?_
    intro x1 hx1
    refine g_if_ne hX dX7_ofKind_4 (fun h4 => ?_) (fun h4 => ?_)
    · refine g_iconst hX dX7_ofKind_7 ic_m1 ?_
      exact g_iret hX (fun h => h) dX7_ofKind_8
    · refine g_iload_n hX dX7_ofKind_9 rfl rfl ?_
      refine g_iconst hX dX7_ofKind_10 ic_0 ?_
      refine g_iconst hX dX7_ofKind_11 ic_5 ?_
      refine g_callS hX (As := [.int a2, .int 0, .int 5]) (fun r => (some (.int r))) (fun _ => cm) (fun _ => mm) (fun _ => lm) (fun r hr => c_X7_within  hr) mi_X7_within ml_7_66 rfl rfl rfl (Nat.le_of_ble_eq_true rfl) dX7_ofKind_12 ?_
      intro x12 hx12
      refine g_if_ne hX dX7_ofKind_15 (fun h15 => ?_) (fun h15 => ?_)
      · refine g_iload_n hX dX7_ofKind_18 rfl rfl ?_
        refine g_bipush hX dX7_ofKind_19 bp_10 ?_
        refine g_bipush hX dX7_ofKind_21 bp_13 ?_
        refine g_callS hX (As := [.int a2, .int 10, .int 13]) (fun r => (some (.int r))) (fun _ => cm) (fun _ => mm) (fun _ => lm) (fun r hr => c_X7_within  hr) mi_X7_within ml_7_66 rfl rfl rfl (Nat.le_of_ble_eq_true rfl) dX7_ofKind_23 ?_
        intro x23 hx23
        refine g_if_ne hX dX7_ofKind_26 (fun h26 => ?_) (fun h26 => ?_)
        · refine g_iload_n hX dX7_ofKind_29 rfl rfl ?_
          refine g_bipush hX dX7_ofKind_30 bp_20 ?_
          refine g_bipush hX dX7_ofKind_32 bp_23 ?_
          refine g_callS hX (As := [.int a2, .int 20, .int 23]) (fun r => (some (.int r))) (fun _ => cm) (fun _ => mm) (fun _ => lm) (fun r hr => c_X7_within  hr) mi_X7_within ml_7_66 rfl rfl rfl (Nat.le_of_ble_eq_true rfl) dX7_ofKind_34 ?_
          intro x34 hx34
          refine g_if_ne hX dX7_ofKind_37 (fun h37 => ?_) (fun h37 => ?_)
          · refine g_bipush hX dX7_ofKind_40 bp_m2 ?_
            exact g_iret hX (fun h => h) dX7_ofKind_42
          · refine g_aload_n hX dX7_ofKind_43 rfl rfl ?_
            refine g_callV hX (As := []) (fun _ => none) (fun _ => cm) (fun r => r) (fun _ => lm) (fun r hr => c_X7_chooseAll  hr) mi_X7_chooseAll ml_7_190 p7_0 e7_0 rfl rfl rfl rfl rfl (Nat.le_of_ble_eq_true rfl) dX7_ofKind_44 ?_
            intro r44 hr44
            refine g_iload_n hX dX7_ofKind_47 rfl rfl ?_
            refine g_tsw hX dX7_ofKind_48 0 (by decide) (by decide) rfl rfl (fun h48_0 => ?_) (fun h48_0 => ?_)
            · refine g_aload_n hX dX7_ofKind_88 rfl rfl ?_
              refine g_get hX fi_7_19 p7_0 e7_0 rfl dX7_ofKind_89 ?_
              refine g_iload_n hX dX7_ofKind_92 rfl rfl ?_
              refine g_iald hX p7_4 e7_4 dX7_ofKind_93 ?_
              intro x93 hx93
              exact g_iret hX (fun h => h) dX7_ofKind_94
            refine g_tsw hX dX7_ofKind_48 1 (by decide) (by decide) rfl rfl (fun h48_1 => ?_) (fun h48_1 => ?_)
            · refine g_aload_n hX dX7_ofKind_95 rfl rfl ?_
              refine g_get hX fi_7_25 p7_0 e7_0 rfl dX7_ofKind_96 ?_
              refine g_iload_n hX dX7_ofKind_99 rfl rfl ?_
              refine g_iald hX p7_6 e7_6 dX7_ofKind_100 ?_
              intro x100 hx100
              exact g_iret hX (fun h => h) dX7_ofKind_101
            refine g_tsw hX dX7_ofKind_48 2 (by decide) (by decide) rfl rfl (fun h48_2 => ?_) (fun h48_2 => ?_)
            · refine g_aload_n hX dX7_ofKind_102 rfl rfl ?_
              refine g_iload_n hX dX7_ofKind_103 rfl rfl ?_
              refine g_bipush hX dX7_ofKind_104 bp_m9 ?_
              refine g_callV hX (As := [.int a1, .int (-9)]) (fun r => (some (.int r))) (fun _ => cm) (fun _ => r44) (fun _ => lm) (fun r hr => c_X7_countedIn  hr) mi_X7_countedIn ml_7_193 p7_0 e7_0 rfl rfl rfl rfl rfl (Nat.le_of_ble_eq_true rfl) dX7_ofKind_106 ?_
              intro x106 hx106
              exact g_iret hX (fun h => h) dX7_ofKind_109
            refine g_tsw hX dX7_ofKind_48 3 (by decide) (by decide) rfl rfl (fun h48_3 => ?_) (fun h48_3 => ?_)
            · refine g_aload_n hX dX7_ofKind_110 rfl rfl ?_
              refine g_get hX fi_7_28 p7_0 e7_0 rfl dX7_ofKind_111 ?_
              refine g_iload_n hX dX7_ofKind_114 rfl rfl ?_
              refine g_iald hX p7_7 e7_7 dX7_ofKind_115 ?_
              intro x115 hx115
              exact g_iret hX (fun h => h) dX7_ofKind_116
            refine g_tsw hX dX7_ofKind_48 4 (by decide) (by decide) rfl rfl (fun h48_4 => ?_) (fun h48_4 => ?_)
            · refine g_aload_n hX dX7_ofKind_117 rfl rfl ?_
              refine g_iload_n hX dX7_ofKind_118 rfl rfl ?_
              refine g_callV hX (As := [.int a1]) (fun r => (some (.int r))) (fun _ => cm) (fun _ => r44) (fun _ => lm) (fun r hr => c_X7_worstMark  hr) mi_X7_worstMark ml_7_196 p7_0 e7_0 rfl rfl rfl rfl rfl (Nat.le_of_ble_eq_true rfl) dX7_ofKind_119 ?_
              intro x119 hx119
              exact g_iret hX (fun h => h) dX7_ofKind_122
            refine g_tsw hX dX7_ofKind_48 5 (by decide) (by decide) rfl rfl (fun h48_5 => ?_) (fun h48_5 => ?_)
            · refine g_aload_n hX dX7_ofKind_123 rfl rfl ?_
              refine g_iload_n hX dX7_ofKind_124 rfl rfl ?_
              refine g_callV hX (As := [.int a1]) (fun r => (some (.int r.1))) (fun _ => cm) (fun r => r.2) (fun _ => lm) (fun r hr => c_X7_fillOf  hr) mi_X7_fillOf ml_7_199 p7_0 e7_0 rfl rfl rfl rfl rfl (Nat.le_of_ble_eq_true rfl) dX7_ofKind_125 ?_
              intro r125 hr125
              exact g_iret hX (fun h => h) dX7_ofKind_128
            refine g_tsd hX dX7_ofKind_48 (sw_out (n := 6) (fun k hk => match k, hk with | 0, _ => h48_0 | 1, _ => h48_1 | 2, _ => h48_2 | 3, _ => h48_3 | 4, _ => h48_4 | 5, _ => h48_5)) rfl ?_
            refine g_iload_n hX dX7_ofKind_129 rfl rfl ?_
            refine g_bipush hX dX7_ofKind_130 bp_20 ?_
            refine g_icmp_ge hX dX7_ofKind_132 (fun h132 => ?_) (fun h132 => ?_)
            · refine g_aload_n hX dX7_ofKind_151 rfl rfl ?_
              refine g_iload_n hX dX7_ofKind_152 rfl rfl ?_
              refine g_iload_n hX dX7_ofKind_153 rfl rfl ?_
              refine g_bipush hX dX7_ofKind_154 bp_20 ?_
              refine g_isub hX dX7_ofKind_156 ?_
              refine g_callV hX (As := [.int a1, .int (a2 - 20)]) (fun r => (some (.int r))) (fun _ => cm) (fun _ => r44) (fun _ => lm) (fun r hr => c_X7_countedIn  hr) mi_X7_countedIn ml_7_193 p7_0 e7_0 rfl rfl rfl rfl rfl (Nat.le_of_ble_eq_true rfl) dX7_ofKind_157 ?_
              intro x157 hx157
              exact g_iret hX (fun h => h) dX7_ofKind_160
            · refine g_aload_n hX dX7_ofKind_135 rfl rfl ?_
              refine g_get hX fi_7_22 p7_0 e7_0 rfl dX7_ofKind_136 ?_
              refine g_iconst hX dX7_ofKind_139 ic_4 ?_
              refine g_iload_n hX dX7_ofKind_140 rfl rfl ?_
              refine g_imul hX dX7_ofKind_141 ?_
              refine g_iload_n hX dX7_ofKind_142 rfl rfl ?_
              refine g_iadd hX dX7_ofKind_143 ?_
              refine g_bipush hX dX7_ofKind_144 bp_10 ?_
              refine g_isub hX dX7_ofKind_146 ?_
              refine g_iald hX p7_5 e7_5 dX7_ofKind_147 ?_
              intro x147 hx147
              refine g_goto hX dX7_ofKind_148 ?_
              exact g_iret hX (fun h => h) dX7_ofKind_160
        · refine g_aload_n hX dX7_ofKind_43 rfl rfl ?_
          refine g_callV hX (As := []) (fun _ => none) (fun _ => cm) (fun r => r) (fun _ => lm) (fun r hr => c_X7_chooseAll  hr) mi_X7_chooseAll ml_7_190 p7_0 e7_0 rfl rfl rfl rfl rfl (Nat.le_of_ble_eq_true rfl) dX7_ofKind_44 ?_
          intro r44 hr44
          refine g_iload_n hX dX7_ofKind_47 rfl rfl ?_
          refine g_tsw hX dX7_ofKind_48 0 (by decide) (by decide) rfl rfl (fun h48_0 => ?_) (fun h48_0 => ?_)
          · refine g_aload_n hX dX7_ofKind_88 rfl rfl ?_
            refine g_get hX fi_7_19 p7_0 e7_0 rfl dX7_ofKind_89 ?_
            refine g_iload_n hX dX7_ofKind_92 rfl rfl ?_
            refine g_iald hX p7_4 e7_4 dX7_ofKind_93 ?_
            intro x93 hx93
            exact g_iret hX (fun h => h) dX7_ofKind_94
          refine g_tsw hX dX7_ofKind_48 1 (by decide) (by decide) rfl rfl (fun h48_1 => ?_) (fun h48_1 => ?_)
          · refine g_aload_n hX dX7_ofKind_95 rfl rfl ?_
            refine g_get hX fi_7_25 p7_0 e7_0 rfl dX7_ofKind_96 ?_
            refine g_iload_n hX dX7_ofKind_99 rfl rfl ?_
            refine g_iald hX p7_6 e7_6 dX7_ofKind_100 ?_
            intro x100 hx100
            exact g_iret hX (fun h => h) dX7_ofKind_101
          refine g_tsw hX dX7_ofKind_48 2 (by decide) (by decide) rfl rfl (fun h48_2 => ?_) (fun h48_2 => ?_)
          · refine g_aload_n hX dX7_ofKind_102 rfl rfl ?_
            refine g_iload_n hX dX7_ofKind_103 rfl rfl ?_
            refine g_bipush hX dX7_ofKind_104 bp_m9 ?_
            refine g_callV hX (As := [.int a1, .int (-9)]) (fun r => (some (.int r))) (fun _ => cm) (fun _ => r44) (fun _ => lm) (fun r hr => c_X7_countedIn  hr) mi_X7_countedIn ml_7_193 p7_0 e7_0 rfl rfl rfl rfl rfl (Nat.le_of_ble_eq_true rfl) dX7_ofKind_106 ?_
            intro x106 hx106
            exact g_iret hX (fun h => h) dX7_ofKind_109
          refine g_tsw hX dX7_ofKind_48 3 (by decide) (by decide) rfl rfl (fun h48_3 => ?_) (fun h48_3 => ?_)
          · refine g_aload_n hX dX7_ofKind_110 rfl rfl ?_
            refine g_get hX fi_7_28 p7_0 e7_0 rfl dX7_ofKind_111 ?_
            refine g_iload_n hX dX7_ofKind_114 rfl rfl ?_
            refine g_iald hX p7_7 e7_7 dX7_ofKind_115 ?_
            intro x115 hx115
            exact g_iret hX (fun h => h) dX7_ofKind_116
          refine g_tsw hX dX7_ofKind_48 4 (by decide) (by decide) rfl rfl (fun h48_4 => ?_) (fun h48_4 => ?_)
          · refine g_aload_n hX dX7_ofKind_117 rfl rfl ?_
            refine g_iload_n hX dX7_ofKind_118 rfl rfl ?_
            refine g_callV hX (As := [.int a1]) (fun r => (some (.int r))) (fun _ => cm) (fun _ => r44) (fun _ => lm) (fun r hr => c_X7_worstMark  hr) mi_X7_worstMark ml_7_196 p7_0 e7_0 rfl rfl rfl rfl rfl (Nat.le_of_ble_eq_true rfl) dX7_ofKind_119 ?_
            intro x119 hx119
            exact g_iret hX (fun h => h) dX7_ofKind_122
          refine g_tsw hX dX7_ofKind_48 5 (by decide) (by decide) rfl rfl (fun h48_5 => ?_) (fun h48_5 => ?_)
          · refine g_aload_n hX dX7_ofKind_123 rfl rfl ?_
            refine g_iload_n hX dX7_ofKind_124 rfl rfl ?_
            refine g_callV hX (As := [.int a1]) (fun r => (some (.int r.1))) (fun _ => cm) (fun r => r.2) (fun _ => lm) (fun r hr => c_X7_fillOf  hr) mi_X7_fillOf ml_7_199 p7_0 e7_0 rfl rfl rfl rfl rfl (Nat.le_of_ble_eq_true rfl) dX7_ofKind_125 ?_
            intro r125 hr125
            exact g_iret hX (fun h => h) dX7_ofKind_128
          refine g_tsd hX dX7_ofKind_48 (sw_out (n := 6) (fun k hk => match k, hk with | 0, _ => h48_0 | 1, _ => h48_1 | 2, _ => h48_2 | 3, _ => h48_3 | 4, _ => h48_4 | 5, _ => h48_5)) rfl ?_
          refine g_iload_n hX dX7_ofKind_129 rfl rfl ?_
          refine g_bipush hX dX7_ofKind_130 bp_20 ?_
          refine g_icmp_ge hX dX7_ofKind_132 (fun h132 => ?_) (fun h132 => ?_)
          · refine g_aload_n hX dX7_ofKind_151 rfl rfl ?_
            refine g_iload_n hX dX7_ofKind_152 rfl rfl ?_
            refine g_iload_n hX dX7_ofKind_153 rfl rfl ?_
            refine g_bipush hX dX7_ofKind_154 bp_20 ?_
            refine g_isub hX dX7_ofKind_156 ?_
            refine g_callV hX (As := [.int a1, .int (a2 - 20)]) (fun r => (some (.int r))) (fun _ => cm) (fun _ => r44) (fun _ => lm) (fun r hr => c_X7_countedIn  hr) mi_X7_countedIn ml_7_193 p7_0 e7_0 rfl rfl rfl rfl rfl (Nat.le_of_ble_eq_true rfl) dX7_ofKind_157 ?_
            intro x157 hx157
            exact g_iret hX (fun h => h) dX7_ofKind_160
          · refine g_aload_n hX dX7_ofKind_135 rfl rfl ?_
            refine g_get hX fi_7_22 p7_0 e7_0 rfl dX7_ofKind_136 ?_
            refine g_iconst hX dX7_ofKind_139 ic_4 ?_
            refine g_iload_n hX dX7_ofKind_140 rfl rfl ?_
            refine g_imul hX dX7_ofKind_141 ?_
            refine g_iload_n hX dX7_ofKind_142 rfl rfl ?_
            refine g_iadd hX dX7_ofKind_143 ?_
            refine g_bipush hX dX7_ofKind_144 bp_10 ?_
            refine g_isub hX dX7_ofKind_146 ?_
            refine g_iald hX p7_5 e7_5 dX7_ofKind_147 ?_
            intro x147 hx147
            refine g_goto hX dX7_ofKind_148 ?_
            exact g_iret hX (fun h => h) dX7_ofKind_160
      · refine g_aload_n hX dX7_ofKind_43 rfl rfl ?_
        refine g_callV hX (As := []) (fun _ => none) (fun _ => cm) (fun r => r) (fun _ => lm) (fun r hr => c_X7_chooseAll  hr) mi_X7_chooseAll ml_7_190 p7_0 e7_0 rfl rfl rfl rfl rfl (Nat.le_of_ble_eq_true rfl) dX7_ofKind_44 ?_
        intro r44 hr44
        refine g_iload_n hX dX7_ofKind_47 rfl rfl ?_
        refine g_tsw hX dX7_ofKind_48 0 (by decide) (by decide) rfl rfl (fun h48_0 => ?_) (fun h48_0 => ?_)
        · refine g_aload_n hX dX7_ofKind_88 rfl rfl ?_
          refine g_get hX fi_7_19 p7_0 e7_0 rfl dX7_ofKind_89 ?_
          refine g_iload_n hX dX7_ofKind_92 rfl rfl ?_
          refine g_iald hX p7_4 e7_4 dX7_ofKind_93 ?_
          intro x93 hx93
          exact g_iret hX (fun h => h) dX7_ofKind_94
        refine g_tsw hX dX7_ofKind_48 1 (by decide) (by decide) rfl rfl (fun h48_1 => ?_) (fun h48_1 => ?_)
        · refine g_aload_n hX dX7_ofKind_95 rfl rfl ?_
          refine g_get hX fi_7_25 p7_0 e7_0 rfl dX7_ofKind_96 ?_
          refine g_iload_n hX dX7_ofKind_99 rfl rfl ?_
          refine g_iald hX p7_6 e7_6 dX7_ofKind_100 ?_
          intro x100 hx100
          exact g_iret hX (fun h => h) dX7_ofKind_101
        refine g_tsw hX dX7_ofKind_48 2 (by decide) (by decide) rfl rfl (fun h48_2 => ?_) (fun h48_2 => ?_)
        · refine g_aload_n hX dX7_ofKind_102 rfl rfl ?_
          refine g_iload_n hX dX7_ofKind_103 rfl rfl ?_
          refine g_bipush hX dX7_ofKind_104 bp_m9 ?_
          refine g_callV hX (As := [.int a1, .int (-9)]) (fun r => (some (.int r))) (fun _ => cm) (fun _ => r44) (fun _ => lm) (fun r hr => c_X7_countedIn  hr) mi_X7_countedIn ml_7_193 p7_0 e7_0 rfl rfl rfl rfl rfl (Nat.le_of_ble_eq_true rfl) dX7_ofKind_106 ?_
          intro x106 hx106
          exact g_iret hX (fun h => h) dX7_ofKind_109
        refine g_tsw hX dX7_ofKind_48 3 (by decide) (by decide) rfl rfl (fun h48_3 => ?_) (fun h48_3 => ?_)
        · refine g_aload_n hX dX7_ofKind_110 rfl rfl ?_
          refine g_get hX fi_7_28 p7_0 e7_0 rfl dX7_ofKind_111 ?_
          refine g_iload_n hX dX7_ofKind_114 rfl rfl ?_
          refine g_iald hX p7_7 e7_7 dX7_ofKind_115 ?_
          intro x115 hx115
          exact g_iret hX (fun h => h) dX7_ofKind_116
        refine g_tsw hX dX7_ofKind_48 4 (by decide) (by decide) rfl rfl (fun h48_4 => ?_) (fun h48_4 => ?_)
        · refine g_aload_n hX dX7_ofKind_117 rfl rfl ?_
          refine g_iload_n hX dX7_ofKind_118 rfl rfl ?_
          refine g_callV hX (As := [.int a1]) (fun r => (some (.int r))) (fun _ => cm) (fun _ => r44) (fun _ => lm) (fun r hr => c_X7_worstMark  hr) mi_X7_worstMark ml_7_196 p7_0 e7_0 rfl rfl rfl rfl rfl (Nat.le_of_ble_eq_true rfl) dX7_ofKind_119 ?_
          intro x119 hx119
          exact g_iret hX (fun h => h) dX7_ofKind_122
        refine g_tsw hX dX7_ofKind_48 5 (by decide) (by decide) rfl rfl (fun h48_5 => ?_) (fun h48_5 => ?_)
        · refine g_aload_n hX dX7_ofKind_123 rfl rfl ?_
          refine g_iload_n hX dX7_ofKind_124 rfl rfl ?_
          refine g_callV hX (As := [.int a1]) (fun r => (some (.int r.1))) (fun _ => cm) (fun r => r.2) (fun _ => lm) (fun r hr => c_X7_fillOf  hr) mi_X7_fillOf ml_7_199 p7_0 e7_0 rfl rfl rfl rfl rfl (Nat.le_of_ble_eq_true rfl) dX7_ofKind_125 ?_
          intro r125 hr125
          exact g_iret hX (fun h => h) dX7_ofKind_128
        refine g_tsd hX dX7_ofKind_48 (sw_out (n := 6) (fun k hk => match k, hk with | 0, _ => h48_0 | 1, _ => h48_1 | 2, _ => h48_2 | 3, _ => h48_3 | 4, _ => h48_4 | 5, _ => h48_5)) rfl ?_
        refine g_iload_n hX dX7_ofKind_129 rfl rfl ?_
        refine g_bipush hX dX7_ofKind_130 bp_20 ?_
        refine g_icmp_ge hX dX7_ofKind_132 (fun h132 => ?_) (fun h132 => ?_)
        · refine g_aload_n hX dX7_ofKind_151 rfl rfl ?_
          refine g_iload_n hX dX7_ofKind_152 rfl rfl ?_
          refine g_iload_n hX dX7_ofKind_153 rfl rfl ?_
          refine g_bipush hX dX7_ofKind_154 bp_20 ?_
          refine g_isub hX dX7_ofKind_156 ?_
          refine g_callV hX (As := [.int a1, .int (a2 - 20)]) (fun r => (some (.int r))) (fun _ => cm) (fun _ => r44) (fun _ => lm) (fun r hr => c_X7_countedIn  hr) mi_X7_countedIn ml_7_193 p7_0 e7_0 rfl rfl rfl rfl rfl (Nat.le_of_ble_eq_true rfl) dX7_ofKind_157 ?_
          intro x157 hx157
          exact g_iret hX (fun h => h) dX7_ofKind_160
        · refine g_aload_n hX dX7_ofKind_135 rfl rfl ?_
          refine g_get hX fi_7_22 p7_0 e7_0 rfl dX7_ofKind_136 ?_
          refine g_iconst hX dX7_ofKind_139 ic_4 ?_
          refine g_iload_n hX dX7_ofKind_140 rfl rfl ?_
          refine g_imul hX dX7_ofKind_141 ?_
          refine g_iload_n hX dX7_ofKind_142 rfl rfl ?_
          refine g_iadd hX dX7_ofKind_143 ?_
          refine g_bipush hX dX7_ofKind_144 bp_10 ?_
          refine g_isub hX dX7_ofKind_146 ?_
          refine g_iald hX p7_5 e7_5 dX7_ofKind_147 ?_
          intro x147 hx147
          refine g_goto hX dX7_ofKind_148 ?_
          exact g_iret hX (fun h => h) dX7_ofKind_160
  exact g r h hF

def f_X7_usedOf_B4 (a1 : Int32) (s4_2 : Int32) (s4_3 : Int32) : Option ((Int32 × Int32) ⊕ (Int32 × Int32)) :=
  if a1 ≤ s4_3 then
    some (.inl (s4_2, s4_3))
  else
    (dvI s4_2 6).bind fun x12 =>
    some (.inr (x12, s4_3 + 1))

def f_X7_usedOf (a0 a1 : Int32) : Option (Int32) :=
  (itr (fun s : Int32 × Int32 => f_X7_usedOf_B4 a1 s.1 s.2) 2000 (a0, 0)).bind fun (s4_2, s4_3) =>
  (rmI s4_2 6).bind fun x23 =>
  some x23

abbrev rm_X7_usedOf : Room := { frames := 0, cells := 0, slots := 0, locals := 0 }
set_option maxHeartbeats 2000000 in
set_option maxRecDepth 20000 in
theorem c_X7_usedOf {Z : ZC} {cm : CM} {mm : MM} {lm : LM} {a0 a1 : Int32} {r : Int32}  (h : f_X7_usedOf a0 a1 = some r) : Ct Z yX7_usedOf cX7_usedOf 4 (some .int) rm_X7_usedOf [.int a0, .int a1] cm mm lm (some (.int r)) cm mm lm := by
  refine Ct_of (own := RX7) [some (.int a0), some (.int a1), none, none] ⟨by decide, rfl⟩ rfl (Nat.le_of_ble_eq_true rfl) rfl (fun X hX hF => ?_)
  have g : G (fun r : Int32 => Fx Z X (some .int) (some (.int r)) cm mm lm) (f_X7_usedOf a0 a1) (J Z X 4 cm mm lm 0 [some (.int a0), some (.int a1), none, none] []) := by
    unfold f_X7_usedOf
    refine g_iload_n hX dX7_usedOf_0 rfl rfl ?_
    refine g_istore_n hX dX7_usedOf_1 rfl (Nat.le_of_ble_eq_true rfl) rfl ?_
    refine g_iconst hX dX7_usedOf_2 ic_0 ?_
    refine g_istore_n hX dX7_usedOf_3 rfl (Nat.le_of_ble_eq_true rfl) rfl ?_
    refine g_loop (Hd := fun s : Int32 × Int32 => J Z X 4 cm mm lm 4 [some (.int a0), some (.int a1), some (.int s.1), some (.int s.2)] []) (Ex := fun s : Int32 × Int32 => J Z X 4 cm mm lm 20 [some (.int a0), some (.int a1), some (.int s.1), some (.int s.2)] []) ?_ ?_
    · rintro ⟨s4_2, s4_3⟩
      show G _ (f_X7_usedOf_B4 a1 s4_2 s4_3) (J Z X 4 cm mm lm 4 [some (.int a0), some (.int a1), some (.int s4_2), some (.int s4_3)] [])
      unfold f_X7_usedOf_B4
      refine g_iload_n hX dX7_usedOf_4 rfl rfl ?_
      refine g_iload_n hX dX7_usedOf_5 rfl rfl ?_
      refine g_icmp_ge hX dX7_usedOf_6 (fun h6 => ?_) (fun h6 => ?_)
      · exact g_wk (lv0 := [some (.int a0), some (.int a1), some (.int s4_2), some (.int s4_3)]) ⟨rfl, rfl, rfl, rfl, trivial⟩ (g_end (fun h => h))
      · refine g_iload_n hX dX7_usedOf_9 rfl rfl ?_
        refine g_bipush hX dX7_usedOf_10 bp_6 ?_
        refine g_idiv' hX dX7_usedOf_12 ?_
        intro x12 hx12
        refine g_istore_n hX dX7_usedOf_13 rfl (Nat.le_of_ble_eq_true rfl) rfl ?_
        refine g_iinc hX dX7_usedOf_14 ic_1 rfl (Nat.le_of_ble_eq_true rfl) rfl ?_
        refine g_goto hX dX7_usedOf_17 ?_
        exact g_wk (lv0 := [some (.int a0), some (.int a1), some (.int x12), some (.int (s4_3 + 1))]) ⟨rfl, rfl, rfl, rfl, trivial⟩ (g_end (fun h => h))
    · rintro ⟨s4_2, s4_3⟩
      show G _ _ (J Z X 4 cm mm lm 20 [some (.int a0), some (.int a1), some (.int s4_2), some (.int s4_3)] [])
      refine g_iload_n hX dX7_usedOf_20 rfl rfl ?_
      refine g_bipush hX dX7_usedOf_21 bp_6 ?_
      refine g_irem' hX dX7_usedOf_23 ?_
      intro x23 hx23
      exact g_iret hX (fun h => h) dX7_usedOf_24
  exact g r h hF

def f_X7_sixes (a0 : Int32) : Option (Int32) :=
  if a0 = 0 then
    some 1
  else
    if a0 = 1 then
      some 6
    else
      if a0 = 2 then
        some 36
      else
        some 216

abbrev rm_X7_sixes : Room := { frames := 0, cells := 0, slots := 0, locals := 0 }
set_option maxHeartbeats 2000000 in
set_option maxRecDepth 20000 in
theorem c_X7_sixes {Z : ZC} {cm : CM} {mm : MM} {lm : LM} {a0 : Int32} {r : Int32}  (h : f_X7_sixes a0 = some r) : Ct Z yX7_sixes cX7_sixes 1 (some .int) rm_X7_sixes [.int a0] cm mm lm (some (.int r)) cm mm lm := by
  refine Ct_of (own := RX7) [some (.int a0)] ⟨by decide, rfl⟩ rfl (Nat.le_of_ble_eq_true rfl) rfl (fun X hX hF => ?_)
  have g : G (fun r : Int32 => Fx Z X (some .int) (some (.int r)) cm mm lm) (f_X7_sixes a0) (J Z X 1 cm mm lm 0 [some (.int a0)] []) := by
    unfold f_X7_sixes
    refine g_iload_n hX dX7_sixes_0 rfl rfl ?_
    refine g_if_ne hX dX7_sixes_1 (fun h1 => ?_) (fun h1 => ?_)
    · refine g_iconst hX dX7_sixes_4 ic_1 ?_
      refine g_goto hX dX7_sixes_5 ?_
      exact g_iret hX (fun h => h) dX7_sixes_31
    · refine g_iload_n hX dX7_sixes_8 rfl rfl ?_
      refine g_iconst hX dX7_sixes_9 ic_1 ?_
      refine g_icmp_ne hX dX7_sixes_10 (fun h10 => ?_) (fun h10 => ?_)
      · refine g_bipush hX dX7_sixes_13 bp_6 ?_
        refine g_goto hX dX7_sixes_15 ?_
        exact g_iret hX (fun h => h) dX7_sixes_31
      · refine g_iload_n hX dX7_sixes_18 rfl rfl ?_
        refine g_iconst hX dX7_sixes_19 ic_2 ?_
        refine g_icmp_ne hX dX7_sixes_20 (fun h20 => ?_) (fun h20 => ?_)
        · refine g_bipush hX dX7_sixes_23 bp_36 ?_
          refine g_goto hX dX7_sixes_25 ?_
          exact g_iret hX (fun h => h) dX7_sixes_31
        · refine g_sipush hX dX7_sixes_28 sp_216 ?_
          exact g_iret hX (fun h => h) dX7_sixes_31
  exact g r h hF

def f_X7_addWays_B11 (mm : MM) (a1 : Int32) (a2 : Int32) (s4_3 : Int32) (s11_4 : Int32) (l11_ : LM) : Option ((Int32 × LM) ⊕ (Int32 × LM)) :=
  if 4 ≤ s11_4 then
    some (.inl (s11_4, l11_))
  else
    (rdL 1296 l11_ s4_3).bind fun x22 =>
    if (lg_cmp x22 (0 : Int64)) ≤ 0 then
      some (.inl (s11_4, l11_))
    else
      (f_X7_of mm a1 3).bind fun x31 =>
      (f_X7_isIn x31 s11_4).bind fun x36 =>
      ((if x36 = 1 then
          (f_X7_usedOf s4_3 s11_4).bind fun x46 =>
          (rd 16 (mm 5) ((4 * a2) + s11_4)).bind fun x59 =>
          if x59 ≤ x46 then
            some 0
          else
            some 1
        else
          some 0) : Option (Int32)).bind fun k68_0 =>
      if k68_0 = 0 then
        some (.inr (s11_4 + 1, l11_))
      else
        (f_X7_sixes s11_4).bind fun x82 =>
        (rdL 1296 l11_ (s4_3 + x82)).bind fun x87 =>
        (rdL 1296 l11_ s4_3).bind fun x93 =>
        (wrL 1296 l11_ (s4_3 + x82) (x87 + x93)).bind fun g95 =>
        some (.inr (s11_4 + 1, g95))

def f_X7_addWays_B4 (mm : MM) (a1 : Int32) (a2 : Int32) (s4_3 : Int32) (l4_ : LM) : Option ((Int32 × LM) ⊕ (Int32 × LM)) :=
  if s4_3 < 0 then
    some (.inl (s4_3, l4_))
  else
    (itr (fun s : Int32 × LM => f_X7_addWays_B11 mm a1 a2 s4_3 s.1 s.2) 2000 (0, l4_)).bind fun (s11_4, l11_) =>
    some (.inr (s4_3 + (-1), l11_))

def f_X7_addWays (mm : MM) (lm : LM) (a1 a2 : Int32) : Option (LM) :=
  (itr (fun s : Int32 × LM => f_X7_addWays_B4 mm a1 a2 s.1 s.2) 2000 (1295, lm)).bind fun (s4_3, l4_) =>
  some l4_

abbrev rm_X7_addWays : Room := { frames := 1, cells := 0, slots := 0, locals := 23 }
set_option maxHeartbeats 2000000 in
set_option maxRecDepth 20000 in
theorem c_X7_addWays {Z : ZC} {cm : CM} {mm : MM} {lm : LM} {a1 a2 : Int32} {r : LM}  (h : f_X7_addWays mm lm a1 a2 = some r) : Ct Z yX7_addWays cX7_addWays 6 none rm_X7_addWays [.ref (ad Z 32 0), .int a1, .int a2] cm mm lm none cm mm r := by
  refine Ct_of (own := RX7) [some (.ref (ad Z 32 0)), some (.int a1), some (.int a2), none, none, none] ⟨by decide, rfl⟩ rfl (Nat.le_of_ble_eq_true rfl) rfl (fun X hX hF => ?_)
  have g : G (fun r : LM => Fx Z X none none cm mm r) (f_X7_addWays mm lm a1 a2) (J Z X 6 cm mm lm 0 [some (.ref (ad Z 32 0)), some (.int a1), some (.int a2), none, none, none] []) := by
    unfold f_X7_addWays
    refine g_sipush hX dX7_addWays_0 sp_1295 ?_
    refine g_istore_n hX dX7_addWays_3 rfl (Nat.le_of_ble_eq_true rfl) rfl ?_
    refine g_loop (Hd := fun s : Int32 × LM => J Z X 6 cm mm s.2 4 [some (.ref (ad Z 32 0)), some (.int a1), some (.int a2), some (.int s.1), none, none] []) (Ex := fun s : Int32 × LM => J Z X 6 cm mm s.2 108 [some (.ref (ad Z 32 0)), some (.int a1), some (.int a2), some (.int s.1), none, none] []) ?_ ?_
    · rintro ⟨s4_3, l4_⟩
      show G _ (f_X7_addWays_B4 mm a1 a2 s4_3 l4_) (J Z X 6 cm mm l4_ 4 [some (.ref (ad Z 32 0)), some (.int a1), some (.int a2), some (.int s4_3), none, none] [])
      unfold f_X7_addWays_B4
      refine g_iload_n hX dX7_addWays_4 rfl rfl ?_
      refine g_if_lt hX dX7_addWays_5 (fun h5 => ?_) (fun h5 => ?_)
      · exact g_wk (lv0 := [some (.ref (ad Z 32 0)), some (.int a1), some (.int a2), some (.int s4_3), none, none]) ⟨rfl, rfl, rfl, rfl, trivial⟩ (g_end (fun h => h))
      · refine g_iconst hX dX7_addWays_8 ic_0 ?_
        refine g_istore hX dX7_addWays_9 (Nat.le_of_ble_eq_true rfl) rfl ?_
        refine g_loop (Hd := fun s : Int32 × LM => J Z X 6 cm mm s.2 11 [some (.ref (ad Z 32 0)), some (.int a1), some (.int a2), some (.int s4_3), some (.int s.1), none] []) (Ex := fun s : Int32 × LM => J Z X 6 cm mm s.2 102 [some (.ref (ad Z 32 0)), some (.int a1), some (.int a2), some (.int s4_3), some (.int s.1), none] []) ?_ ?_
        · rintro ⟨s11_4, l11_⟩
          show G _ (f_X7_addWays_B11 mm a1 a2 s4_3 s11_4 l11_) (J Z X 6 cm mm l11_ 11 [some (.ref (ad Z 32 0)), some (.int a1), some (.int a2), some (.int s4_3), some (.int s11_4), none] [])
          unfold f_X7_addWays_B11
          refine g_iload hX dX7_addWays_11 rfl ?_
          refine g_iconst hX dX7_addWays_13 ic_4 ?_
          refine g_icmp_ge hX dX7_addWays_14 (fun h14 => ?_) (fun h14 => ?_)
          · exact g_wk (lv0 := [some (.ref (ad Z 32 0)), some (.int a1), some (.int a2), some (.int s4_3), some (.int s11_4), none]) ⟨rfl, rfl, rfl, rfl, rfl, trivial⟩ (g_end (fun h => h))
          · refine g_aload_n hX dX7_addWays_17 rfl rfl ?_
            refine g_get hX fi_7_59 p7_0 e7_0 rfl dX7_addWays_18 ?_
            refine g_iload_n hX dX7_addWays_21 rfl rfl ?_
            refine g_lald hX dX7_addWays_22 ?_
            intro x22 hx22
            refine g_lconst (v := 0) hX dX7_addWays_23 rfl ?_
            refine g_lcmp hX dX7_addWays_24 ?_
            refine g_if_le hX dX7_addWays_25 (fun h25 => ?_) (fun h25 => ?_)
            · exact g_wk (lv0 := [some (.ref (ad Z 32 0)), some (.int a1), some (.int a2), some (.int s4_3), some (.int s11_4), none]) ⟨rfl, rfl, rfl, rfl, rfl, trivial⟩ (g_end (fun h => h))
            · refine g_aload_n hX dX7_addWays_28 rfl rfl ?_
              refine g_iload_n hX dX7_addWays_29 rfl rfl ?_
              refine g_iconst hX dX7_addWays_30 ic_3 ?_
              refine g_callV hX (As := [.int a1, .int 3]) (fun r => (some (.int r))) (fun _ => cm) (fun _ => mm) (fun _ => l11_) (fun r hr => c_X7_of  hr) mi_X7_of ml_7_103 p7_0 e7_0 rfl rfl rfl rfl rfl (Nat.le_of_ble_eq_true rfl) dX7_addWays_31 ?_
              intro x31 hx31
              refine g_iload hX dX7_addWays_34 rfl ?_
              refine g_callS hX (As := [.int x31, .int s11_4]) (fun r => (some (.int r))) (fun _ => cm) (fun _ => mm) (fun _ => l11_) (fun r hr => c_X7_isIn  hr) mi_X7_isIn ml_7_120 rfl rfl rfl (Nat.le_of_ble_eq_true rfl) dX7_addWays_36 ?_
              intro x36 hx36
              refine g_iconst hX dX7_addWays_39 ic_1 ?_
              refine g_bind (fun v : Int32 => J Z X 6 cm mm l11_ 68 [some (.ref (ad Z 32 0)), some (.int a1), some (.int a2), some (.int s4_3), some (.int s11_4), none] [.int v]) ?_ ?_
              · refine g_icmp_ne hX dX7_addWays_40 (fun h40 => ?_) (fun h40 => ?_)
                · refine g_iload_n hX dX7_addWays_43 rfl rfl ?_
                  refine g_iload hX dX7_addWays_44 rfl ?_
                  refine g_callS hX (As := [.int s4_3, .int s11_4]) (fun r => (some (.int r))) (fun _ => cm) (fun _ => mm) (fun _ => l11_) (fun r hr => c_X7_usedOf  hr) mi_X7_usedOf ml_7_202 rfl rfl rfl (Nat.le_of_ble_eq_true rfl) dX7_addWays_46 ?_
                  intro x46 hx46
                  refine g_aload_n hX dX7_addWays_49 rfl rfl ?_
                  refine g_get hX fi_7_22 p7_0 e7_0 rfl dX7_addWays_50 ?_
                  refine g_iconst hX dX7_addWays_53 ic_4 ?_
                  refine g_iload_n hX dX7_addWays_54 rfl rfl ?_
                  refine g_imul hX dX7_addWays_55 ?_
                  refine g_iload hX dX7_addWays_56 rfl ?_
                  refine g_iadd hX dX7_addWays_58 ?_
                  refine g_iald hX p7_5 e7_5 dX7_addWays_59 ?_
                  intro x59 hx59
                  refine g_icmp_ge hX dX7_addWays_60 (fun h60 => ?_) (fun h60 => ?_)
                  · refine g_iconst hX dX7_addWays_67 ic_0 ?_
                    exact g_wk (lv0 := [some (.ref (ad Z 32 0)), some (.int a1), some (.int a2), some (.int s4_3), some (.int s11_4), none]) ⟨rfl, rfl, rfl, rfl, rfl, trivial⟩ (g_end (fun h => h))
                  · refine g_iconst hX dX7_addWays_63 ic_1 ?_
                    refine g_goto hX dX7_addWays_64 ?_
                    exact g_wk (lv0 := [some (.ref (ad Z 32 0)), some (.int a1), some (.int a2), some (.int s4_3), some (.int s11_4), none]) ⟨rfl, rfl, rfl, rfl, rfl, trivial⟩ (g_end (fun h => h))
                · refine g_iconst hX dX7_addWays_67 ic_0 ?_
                  exact g_wk (lv0 := [some (.ref (ad Z 32 0)), some (.int a1), some (.int a2), some (.int s4_3), some (.int s11_4), none]) ⟨rfl, rfl, rfl, rfl, rfl, trivial⟩ (g_end (fun h => h))
              · intro k68_0
                show G _ _ (J Z X 6 cm mm l11_ 68 [some (.ref (ad Z 32 0)), some (.int a1), some (.int a2), some (.int s4_3), some (.int s11_4), none] [.int k68_0])
                refine g_istore hX dX7_addWays_68 (Nat.le_of_ble_eq_true rfl) rfl ?_
                refine g_iload hX dX7_addWays_70 rfl ?_
                refine g_if_eq hX dX7_addWays_72 (fun h72 => ?_) (fun h72 => ?_)
                · refine g_iinc hX dX7_addWays_96 ic_1 rfl (Nat.le_of_ble_eq_true rfl) rfl ?_
                  refine g_goto hX dX7_addWays_99 ?_
                  exact g_wk (lv0 := [some (.ref (ad Z 32 0)), some (.int a1), some (.int a2), some (.int s4_3), some (.int (s11_4 + 1)), none]) ⟨rfl, rfl, rfl, rfl, rfl, trivial⟩ (g_end (fun h => h))
                · refine g_aload_n hX dX7_addWays_75 rfl rfl ?_
                  refine g_get hX fi_7_59 p7_0 e7_0 rfl dX7_addWays_76 ?_
                  refine g_iload_n hX dX7_addWays_79 rfl rfl ?_
                  refine g_iload hX dX7_addWays_80 rfl ?_
                  refine g_callS hX (As := [.int s11_4]) (fun r => (some (.int r))) (fun _ => cm) (fun _ => mm) (fun _ => l11_) (fun r hr => c_X7_sixes  hr) mi_X7_sixes ml_7_205 rfl rfl rfl (Nat.le_of_ble_eq_true rfl) dX7_addWays_82 ?_
                  intro x82 hx82
                  refine g_iadd hX dX7_addWays_85 ?_
                  refine g_dup2 hX dX7_addWays_86 rfl rfl ?_
                  refine g_lald hX dX7_addWays_87 ?_
                  intro x87 hx87
                  refine g_aload_n hX dX7_addWays_88 rfl rfl ?_
                  refine g_get hX fi_7_59 p7_0 e7_0 rfl dX7_addWays_89 ?_
                  refine g_iload_n hX dX7_addWays_92 rfl rfl ?_
                  refine g_lald hX dX7_addWays_93 ?_
                  intro x93 hx93
                  refine g_ladd hX dX7_addWays_94 ?_
                  refine g_last hX dX7_addWays_95 ?_
                  intro g95 hg95
                  refine g_iinc hX dX7_addWays_96 ic_1 rfl (Nat.le_of_ble_eq_true rfl) rfl ?_
                  refine g_goto hX dX7_addWays_99 ?_
                  exact g_wk (lv0 := [some (.ref (ad Z 32 0)), some (.int a1), some (.int a2), some (.int s4_3), some (.int (s11_4 + 1)), none]) ⟨rfl, rfl, rfl, rfl, rfl, trivial⟩ (g_end (fun h => h))
        · rintro ⟨s11_4, l11_⟩
          show G _ _ (J Z X 6 cm mm l11_ 102 [some (.ref (ad Z 32 0)), some (.int a1), some (.int a2), some (.int s4_3), some (.int s11_4), none] [])
          refine g_iinc hX dX7_addWays_102 ic_m1 rfl (Nat.le_of_ble_eq_true rfl) rfl ?_
          refine g_goto hX dX7_addWays_105 ?_
          exact g_wk (lv0 := [some (.ref (ad Z 32 0)), some (.int a1), some (.int a2), some (.int (s4_3 + (-1))), none, none]) ⟨rfl, rfl, rfl, rfl, trivial⟩ (g_end (fun h => h))
    · rintro ⟨s4_3, l4_⟩
      show G _ _ (J Z X 6 cm mm l4_ 108 [some (.ref (ad Z 32 0)), some (.int a1), some (.int a2), some (.int s4_3), none, none] [])
      exact g_vret hX (fun h => h) dX7_addWays_108
  exact g r h hF

def f_X7_ways_B17 (s17_2 : Int32) (l17_ : LM) : Option ((Int32 × LM) ⊕ (Int32 × LM)) :=
  if 1296 ≤ s17_2 then
    some (.inl (s17_2, l17_))
  else
    if s17_2 = 0 then
      (wrL 1296 l17_ s17_2 (1 : Int64)).bind fun g38 =>
      some (.inr (s17_2 + 1, g38))
    else
      (wrL 1296 l17_ s17_2 (0 : Int64)).bind fun g38 =>
      some (.inr (s17_2 + 1, g38))

def f_X7_ways_B47 (a1 : Int32) (r12 : MM) (s47_2 : Int32) (l47_ : LM) : Option ((Int32 × LM) ⊕ (Int32 × LM)) :=
  (rd 159 (r12 1) 157).bind fun x55 =>
  if x55 ≤ s47_2 then
    some (.inl (s47_2, l47_))
  else
    (f_X7_isTakenIn r12 s47_2 a1).bind fun x62 =>
    if x62 = 0 then
      some (.inr (s47_2 + 1, l47_))
    else
      (f_X7_addWays r12 l47_ s47_2 a1).bind fun r71 =>
      some (.inr (s47_2 + 1, r71))

def f_X7_ways_B91 (l47_ : LM) (r82 : Int32 × MM) (s91_3 : Int64) (s91_5 : Int32) : Option ((Int64 × Int32) ⊕ (Int64 × Int32)) :=
  if 1296 ≤ s91_5 then
    some (.inl (s91_3, s91_5))
  else
    (f_X7_usedOf s91_5 0).bind fun x102 =>
    (f_X7_usedOf s91_5 1).bind fun x108 =>
    (f_X7_usedOf s91_5 2).bind fun x115 =>
    (f_X7_usedOf s91_5 3).bind fun x122 =>
    if (((x102 + x108) + x115) + x122) = r82.1 then
      (rdL 1296 l47_ s91_5).bind fun x141 =>
      some (.inr (s91_3 + x141, s91_5 + 1))
    else
      some (.inr (s91_3 + (0 : Int64), s91_5 + 1))

def f_X7_ways (mm : MM) (lm : LM) (a1 : Int32) : Option (Int64 × MM × LM) :=
  (f_X7_isKind a1).bind fun x1 =>
  if x1 = 0 then
    some ((-1 : Int64), mm, lm)
  else
    (f_X7_choose mm).bind fun r12 =>
    (itr (fun s : Int32 × LM => f_X7_ways_B17 s.1 s.2) 2000 (0, lm)).bind fun (s17_2, l17_) =>
    (itr (fun s : Int32 × LM => f_X7_ways_B47 a1 r12 s.1 s.2) 2000 (0, l17_)).bind fun (s47_2, l47_) =>
    (f_X7_fillOf r12 a1).bind fun r82 =>
    (itr (fun s : Int64 × Int32 => f_X7_ways_B91 l47_ r82 s.1 s.2) 2000 ((0 : Int64), 0)).bind fun (s91_3, s91_5) =>
    some (s91_3, r82.2, l47_)

abbrev rm_X7_ways : Room := { frames := 6, cells := 0, slots := 0, locals := 136 }
set_option maxHeartbeats 2000000 in
set_option maxRecDepth 20000 in
theorem c_X7_ways {Z : ZC} {cm : CM} {mm : MM} {lm : LM} {a1 : Int32} {r : Int64 × MM × LM}  (h : f_X7_ways mm lm a1 = some r) : Ct Z yX7_ways cX7_ways 7 (some .long) rm_X7_ways [.ref (ad Z 32 0), .int a1] cm mm lm (some (.long r.1)) cm r.2.1 r.2.2 := by
  refine Ct_of (own := RX7) [some (.ref (ad Z 32 0)), some (.int a1), none, none, none, none, none] ⟨by decide, rfl⟩ rfl (Nat.le_of_ble_eq_true rfl) rfl (fun X hX hF => ?_)
  have g : G (fun r : Int64 × MM × LM => Fx Z X (some .long) (some (.long r.1)) cm r.2.1 r.2.2) (f_X7_ways mm lm a1) (J Z X 7 cm mm lm 0 [some (.ref (ad Z 32 0)), some (.int a1), none, none, none, none, none] []) := by
    unfold f_X7_ways
    refine g_iload_n hX dX7_ways_0 rfl rfl ?_
    refine g_callS hX (As := [.int a1]) (fun r => (some (.int r))) (fun _ => cm) (fun _ => mm) (fun _ => lm) (fun r hr => c_X7_isKind  hr) mi_X7_isKind ml_7_80 rfl rfl rfl (Nat.le_of_ble_eq_true rfl) dX7_ways_1 ?_
    intro x1 hx1
    refine g_if_ne hX dX7_ways_4 (fun h4 => ?_) (fun h4 => ?_)
    · refine g_ldc2 hX dX7_ways_7 kl_208 ?_
      exact g_lret hX (fun h => h) dX7_ways_10
    · refine g_aload_n hX dX7_ways_11 rfl rfl ?_
      refine g_callV hX (As := []) (fun _ => none) (fun _ => cm) (fun r => r) (fun _ => lm) (fun r hr => c_X7_choose  hr) mi_X7_choose ml_7_184 p7_0 e7_0 rfl rfl rfl rfl rfl (Nat.le_of_ble_eq_true rfl) dX7_ways_12 ?_
      intro r12 hr12
      refine g_iconst hX dX7_ways_15 ic_0 ?_
      refine g_istore_n hX dX7_ways_16 rfl (Nat.le_of_ble_eq_true rfl) rfl ?_
      refine g_loop (Hd := fun s : Int32 × LM => J Z X 7 cm r12 s.2 17 [some (.ref (ad Z 32 0)), some (.int a1), some (.int s.1), none, none, none, none] []) (Ex := fun s : Int32 × LM => J Z X 7 cm r12 s.2 45 [some (.ref (ad Z 32 0)), some (.int a1), some (.int s.1), none, none, none, none] []) ?_ ?_
      · rintro ⟨s17_2, l17_⟩
        show G _ (f_X7_ways_B17 s17_2 l17_) (J Z X 7 cm r12 l17_ 17 [some (.ref (ad Z 32 0)), some (.int a1), some (.int s17_2), none, none, none, none] [])
        unfold f_X7_ways_B17
        refine g_iload_n hX dX7_ways_17 rfl rfl ?_
        refine g_sipush hX dX7_ways_18 sp_1296 ?_
        refine g_icmp_ge hX dX7_ways_21 (fun h21 => ?_) (fun h21 => ?_)
        · exact g_wk (lv0 := [some (.ref (ad Z 32 0)), some (.int a1), some (.int s17_2), none, none, none, none]) ⟨rfl, rfl, rfl, trivial⟩ (g_end (fun h => h))
        · refine g_aload_n hX dX7_ways_24 rfl rfl ?_
          refine g_get hX fi_7_59 p7_0 e7_0 rfl dX7_ways_25 ?_
          refine g_iload_n hX dX7_ways_28 rfl rfl ?_
          refine g_iload_n hX dX7_ways_29 rfl rfl ?_
          refine g_if_ne hX dX7_ways_30 (fun h30 => ?_) (fun h30 => ?_)
          · refine g_lconst (v := 1) hX dX7_ways_33 rfl ?_
            refine g_goto hX dX7_ways_34 ?_
            refine g_last hX dX7_ways_38 ?_
            intro g38 hg38
            refine g_iinc hX dX7_ways_39 ic_1 rfl (Nat.le_of_ble_eq_true rfl) rfl ?_
            refine g_goto hX dX7_ways_42 ?_
            exact g_wk (lv0 := [some (.ref (ad Z 32 0)), some (.int a1), some (.int (s17_2 + 1)), none, none, none, none]) ⟨rfl, rfl, rfl, trivial⟩ (g_end (fun h => h))
          · refine g_lconst (v := 0) hX dX7_ways_37 rfl ?_
            refine g_last hX dX7_ways_38 ?_
            intro g38 hg38
            refine g_iinc hX dX7_ways_39 ic_1 rfl (Nat.le_of_ble_eq_true rfl) rfl ?_
            refine g_goto hX dX7_ways_42 ?_
            exact g_wk (lv0 := [some (.ref (ad Z 32 0)), some (.int a1), some (.int (s17_2 + 1)), none, none, none, none]) ⟨rfl, rfl, rfl, trivial⟩ (g_end (fun h => h))
      · rintro ⟨s17_2, l17_⟩
        show G _ _ (J Z X 7 cm r12 l17_ 45 [some (.ref (ad Z 32 0)), some (.int a1), some (.int s17_2), none, none, none, none] [])
        refine g_iconst hX dX7_ways_45 ic_0 ?_
        refine g_istore_n hX dX7_ways_46 rfl (Nat.le_of_ble_eq_true rfl) rfl ?_
        refine g_loop (Hd := fun s : Int32 × LM => J Z X 7 cm r12 s.2 47 [some (.ref (ad Z 32 0)), some (.int a1), some (.int s.1), none, none, none, none] []) (Ex := fun s : Int32 × LM => J Z X 7 cm r12 s.2 80 [some (.ref (ad Z 32 0)), some (.int a1), some (.int s.1), none, none, none, none] []) ?_ ?_
        · rintro ⟨s47_2, l47_⟩
          show G _ (f_X7_ways_B47 a1 r12 s47_2 l47_) (J Z X 7 cm r12 l47_ 47 [some (.ref (ad Z 32 0)), some (.int a1), some (.int s47_2), none, none, none, none] [])
          unfold f_X7_ways_B47
          refine g_iload_n hX dX7_ways_47 rfl rfl ?_
          refine g_aload_n hX dX7_ways_48 rfl rfl ?_
          refine g_get hX fi_7_7 p7_0 e7_0 rfl dX7_ways_49 ?_
          refine g_sipush hX dX7_ways_52 sp_157 ?_
          refine g_iald hX p7_1 e7_1 dX7_ways_55 ?_
          intro x55 hx55
          refine g_icmp_ge hX dX7_ways_56 (fun h56 => ?_) (fun h56 => ?_)
          · exact g_wk (lv0 := [some (.ref (ad Z 32 0)), some (.int a1), some (.int s47_2), none, none, none, none]) ⟨rfl, rfl, rfl, trivial⟩ (g_end (fun h => h))
          · refine g_aload_n hX dX7_ways_59 rfl rfl ?_
            refine g_iload_n hX dX7_ways_60 rfl rfl ?_
            refine g_iload_n hX dX7_ways_61 rfl rfl ?_
            refine g_callV hX (As := [.int s47_2, .int a1]) (fun r => (some (.int r))) (fun _ => cm) (fun _ => r12) (fun _ => l47_) (fun r hr => c_X7_isTakenIn  hr) mi_X7_isTakenIn ml_7_163 p7_0 e7_0 rfl rfl rfl rfl rfl (Nat.le_of_ble_eq_true rfl) dX7_ways_62 ?_
            intro x62 hx62
            refine g_if_eq hX dX7_ways_65 (fun h65 => ?_) (fun h65 => ?_)
            · refine g_iinc hX dX7_ways_74 ic_1 rfl (Nat.le_of_ble_eq_true rfl) rfl ?_
              refine g_goto hX dX7_ways_77 ?_
              exact g_wk (lv0 := [some (.ref (ad Z 32 0)), some (.int a1), some (.int (s47_2 + 1)), none, none, none, none]) ⟨rfl, rfl, rfl, trivial⟩ (g_end (fun h => h))
            · refine g_aload_n hX dX7_ways_68 rfl rfl ?_
              refine g_iload_n hX dX7_ways_69 rfl rfl ?_
              refine g_iload_n hX dX7_ways_70 rfl rfl ?_
              refine g_callV hX (As := [.int s47_2, .int a1]) (fun _ => none) (fun _ => cm) (fun _ => r12) (fun r => r) (fun r hr => c_X7_addWays  hr) mi_X7_addWays ml_7_210 p7_0 e7_0 rfl rfl rfl rfl rfl (Nat.le_of_ble_eq_true rfl) dX7_ways_71 ?_
              intro r71 hr71
              refine g_iinc hX dX7_ways_74 ic_1 rfl (Nat.le_of_ble_eq_true rfl) rfl ?_
              refine g_goto hX dX7_ways_77 ?_
              exact g_wk (lv0 := [some (.ref (ad Z 32 0)), some (.int a1), some (.int (s47_2 + 1)), none, none, none, none]) ⟨rfl, rfl, rfl, trivial⟩ (g_end (fun h => h))
        · rintro ⟨s47_2, l47_⟩
          show G _ _ (J Z X 7 cm r12 l47_ 80 [some (.ref (ad Z 32 0)), some (.int a1), some (.int s47_2), none, none, none, none] [])
          refine g_aload_n hX dX7_ways_80 rfl rfl ?_
          refine g_iload_n hX dX7_ways_81 rfl rfl ?_
          refine g_callV hX (As := [.int a1]) (fun r => (some (.int r.1))) (fun _ => cm) (fun r => r.2) (fun _ => l47_) (fun r hr => c_X7_fillOf  hr) mi_X7_fillOf ml_7_199 p7_0 e7_0 rfl rfl rfl rfl rfl (Nat.le_of_ble_eq_true rfl) dX7_ways_82 ?_
          intro r82 hr82
          refine g_istore_n hX dX7_ways_85 rfl (Nat.le_of_ble_eq_true rfl) rfl ?_
          refine g_lconst (v := 0) hX dX7_ways_86 rfl ?_
          refine g_lstore_n hX dX7_ways_87 rfl (Nat.le_of_ble_eq_true rfl) rfl ?_
          refine g_iconst hX dX7_ways_88 ic_0 ?_
          refine g_istore hX dX7_ways_89 (Nat.le_of_ble_eq_true rfl) rfl ?_
          refine g_loop (Hd := fun s : Int64 × Int32 => J Z X 7 cm r82.2 l47_ 91 [some (.ref (ad Z 32 0)), some (.int a1), some (.int r82.1), some (.long s.1), none, some (.int s.2), none] []) (Ex := fun s : Int64 × Int32 => J Z X 7 cm r82.2 l47_ 154 [some (.ref (ad Z 32 0)), some (.int a1), some (.int r82.1), some (.long s.1), none, some (.int s.2), none] []) ?_ ?_
          · rintro ⟨s91_3, s91_5⟩
            show G _ (f_X7_ways_B91 l47_ r82 s91_3 s91_5) (J Z X 7 cm r82.2 l47_ 91 [some (.ref (ad Z 32 0)), some (.int a1), some (.int r82.1), some (.long s91_3), none, some (.int s91_5), none] [])
            unfold f_X7_ways_B91
            refine g_iload hX dX7_ways_91 rfl ?_
            refine g_sipush hX dX7_ways_93 sp_1296 ?_
            refine g_icmp_ge hX dX7_ways_96 (fun h96 => ?_) (fun h96 => ?_)
            · exact g_wk (lv0 := [some (.ref (ad Z 32 0)), some (.int a1), some (.int r82.1), some (.long s91_3), none, some (.int s91_5), none]) ⟨rfl, rfl, rfl, rfl, rfl, trivial⟩ (g_end (fun h => h))
            · refine g_iload hX dX7_ways_99 rfl ?_
              refine g_iconst hX dX7_ways_101 ic_0 ?_
              refine g_callS hX (As := [.int s91_5, .int 0]) (fun r => (some (.int r))) (fun _ => cm) (fun _ => r82.2) (fun _ => l47_) (fun r hr => c_X7_usedOf  hr) mi_X7_usedOf ml_7_202 rfl rfl rfl (Nat.le_of_ble_eq_true rfl) dX7_ways_102 ?_
              intro x102 hx102
              refine g_iload hX dX7_ways_105 rfl ?_
              refine g_iconst hX dX7_ways_107 ic_1 ?_
              refine g_callS hX (As := [.int s91_5, .int 1]) (fun r => (some (.int r))) (fun _ => cm) (fun _ => r82.2) (fun _ => l47_) (fun r hr => c_X7_usedOf  hr) mi_X7_usedOf ml_7_202 rfl rfl rfl (Nat.le_of_ble_eq_true rfl) dX7_ways_108 ?_
              intro x108 hx108
              refine g_iadd hX dX7_ways_111 ?_
              refine g_iload hX dX7_ways_112 rfl ?_
              refine g_iconst hX dX7_ways_114 ic_2 ?_
              refine g_callS hX (As := [.int s91_5, .int 2]) (fun r => (some (.int r))) (fun _ => cm) (fun _ => r82.2) (fun _ => l47_) (fun r hr => c_X7_usedOf  hr) mi_X7_usedOf ml_7_202 rfl rfl rfl (Nat.le_of_ble_eq_true rfl) dX7_ways_115 ?_
              intro x115 hx115
              refine g_iadd hX dX7_ways_118 ?_
              refine g_iload hX dX7_ways_119 rfl ?_
              refine g_iconst hX dX7_ways_121 ic_3 ?_
              refine g_callS hX (As := [.int s91_5, .int 3]) (fun r => (some (.int r))) (fun _ => cm) (fun _ => r82.2) (fun _ => l47_) (fun r hr => c_X7_usedOf  hr) mi_X7_usedOf ml_7_202 rfl rfl rfl (Nat.le_of_ble_eq_true rfl) dX7_ways_122 ?_
              intro x122 hx122
              refine g_iadd hX dX7_ways_125 ?_
              refine g_istore hX dX7_ways_126 (Nat.le_of_ble_eq_true rfl) rfl ?_
              refine g_lload_n hX dX7_ways_128 rfl rfl ?_
              refine g_iload hX dX7_ways_129 rfl ?_
              refine g_iload_n hX dX7_ways_131 rfl rfl ?_
              refine g_icmp_ne hX dX7_ways_132 (fun h132 => ?_) (fun h132 => ?_)
              · refine g_aload_n hX dX7_ways_135 rfl rfl ?_
                refine g_get hX fi_7_59 p7_0 e7_0 rfl dX7_ways_136 ?_
                refine g_iload hX dX7_ways_139 rfl ?_
                refine g_lald hX dX7_ways_141 ?_
                intro x141 hx141
                refine g_goto hX dX7_ways_142 ?_
                refine g_ladd hX dX7_ways_146 ?_
                refine g_lstore_n hX dX7_ways_147 rfl (Nat.le_of_ble_eq_true rfl) rfl ?_
                refine g_iinc hX dX7_ways_148 ic_1 rfl (Nat.le_of_ble_eq_true rfl) rfl ?_
                refine g_goto hX dX7_ways_151 ?_
                exact g_wk (lv0 := [some (.ref (ad Z 32 0)), some (.int a1), some (.int r82.1), some (.long (s91_3 + x141)), none, some (.int (s91_5 + 1)), none]) ⟨rfl, rfl, rfl, rfl, rfl, trivial⟩ (g_end (fun h => h))
              · refine g_lconst (v := 0) hX dX7_ways_145 rfl ?_
                refine g_ladd hX dX7_ways_146 ?_
                refine g_lstore_n hX dX7_ways_147 rfl (Nat.le_of_ble_eq_true rfl) rfl ?_
                refine g_iinc hX dX7_ways_148 ic_1 rfl (Nat.le_of_ble_eq_true rfl) rfl ?_
                refine g_goto hX dX7_ways_151 ?_
                exact g_wk (lv0 := [some (.ref (ad Z 32 0)), some (.int a1), some (.int r82.1), some (.long (s91_3 + (0 : Int64))), none, some (.int (s91_5 + 1)), none]) ⟨rfl, rfl, rfl, rfl, rfl, trivial⟩ (g_end (fun h => h))
          · rintro ⟨s91_3, s91_5⟩
            show G _ _ (J Z X 7 cm r82.2 l47_ 154 [some (.ref (ad Z 32 0)), some (.int a1), some (.int r82.1), some (.long s91_3), none, some (.int s91_5), none] [])
            refine g_lload_n hX dX7_ways_154 rfl rfl ?_
            exact g_lret hX (fun h => h) dX7_ways_155
  exact g r h hF

def f_X7_countedInAll_B4 (mm : MM) (s4_1 : Int32) (s4_2 : Int32) : Option ((Int32 × Int32) ⊕ (Int32 × Int32)) :=
  if 4 ≤ s4_2 then
    some (.inl (s4_1, s4_2))
  else
    (f_X7_countedIn mm s4_2 (-9)).bind fun x14 =>
    some (.inr (s4_1 + x14, s4_2 + 1))

def f_X7_countedInAll (mm : MM) : Option (Int32) :=
  (itr (fun s : Int32 × Int32 => f_X7_countedInAll_B4 mm s.1 s.2) 2000 (0, 0)).bind fun (s4_1, s4_2) =>
  some s4_1

abbrev rm_X7_countedInAll : Room := { frames := 2, cells := 0, slots := 0, locals := 47 }
set_option maxHeartbeats 2000000 in
set_option maxRecDepth 20000 in
theorem c_X7_countedInAll {Z : ZC} {cm : CM} {mm : MM} {lm : LM} {r : Int32}  (h : f_X7_countedInAll mm = some r) : Ct Z yX7_countedInAll cX7_countedInAll 3 (some .int) rm_X7_countedInAll [.ref (ad Z 32 0)] cm mm lm (some (.int r)) cm mm lm := by
  refine Ct_of (own := RX7) [some (.ref (ad Z 32 0)), none, none] ⟨by decide, rfl⟩ rfl (Nat.le_of_ble_eq_true rfl) rfl (fun X hX hF => ?_)
  have g : G (fun r : Int32 => Fx Z X (some .int) (some (.int r)) cm mm lm) (f_X7_countedInAll mm) (J Z X 3 cm mm lm 0 [some (.ref (ad Z 32 0)), none, none] []) := by
    unfold f_X7_countedInAll
    refine g_iconst hX dX7_countedInAll_0 ic_0 ?_
    refine g_istore_n hX dX7_countedInAll_1 rfl (Nat.le_of_ble_eq_true rfl) rfl ?_
    refine g_iconst hX dX7_countedInAll_2 ic_0 ?_
    refine g_istore_n hX dX7_countedInAll_3 rfl (Nat.le_of_ble_eq_true rfl) rfl ?_
    refine g_loop (Hd := fun s : Int32 × Int32 => J Z X 3 cm mm lm 4 [some (.ref (ad Z 32 0)), some (.int s.1), some (.int s.2)] []) (Ex := fun s : Int32 × Int32 => J Z X 3 cm mm lm 25 [some (.ref (ad Z 32 0)), some (.int s.1), some (.int s.2)] []) ?_ ?_
    · rintro ⟨s4_1, s4_2⟩
      show G _ (f_X7_countedInAll_B4 mm s4_1 s4_2) (J Z X 3 cm mm lm 4 [some (.ref (ad Z 32 0)), some (.int s4_1), some (.int s4_2)] [])
      unfold f_X7_countedInAll_B4
      refine g_iload_n hX dX7_countedInAll_4 rfl rfl ?_
      refine g_iconst hX dX7_countedInAll_5 ic_4 ?_
      refine g_icmp_ge hX dX7_countedInAll_6 (fun h6 => ?_) (fun h6 => ?_)
      · exact g_wk (lv0 := [some (.ref (ad Z 32 0)), some (.int s4_1), some (.int s4_2)]) ⟨rfl, rfl, rfl, trivial⟩ (g_end (fun h => h))
      · refine g_iload_n hX dX7_countedInAll_9 rfl rfl ?_
        refine g_aload_n hX dX7_countedInAll_10 rfl rfl ?_
        refine g_iload_n hX dX7_countedInAll_11 rfl rfl ?_
        refine g_bipush hX dX7_countedInAll_12 bp_m9 ?_
        refine g_callV hX (As := [.int s4_2, .int (-9)]) (fun r => (some (.int r))) (fun _ => cm) (fun _ => mm) (fun _ => lm) (fun r hr => c_X7_countedIn  hr) mi_X7_countedIn ml_7_193 p7_0 e7_0 rfl rfl rfl rfl rfl (Nat.le_of_ble_eq_true rfl) dX7_countedInAll_14 ?_
        intro x14 hx14
        refine g_iadd hX dX7_countedInAll_17 ?_
        refine g_istore_n hX dX7_countedInAll_18 rfl (Nat.le_of_ble_eq_true rfl) rfl ?_
        refine g_iinc hX dX7_countedInAll_19 ic_1 rfl (Nat.le_of_ble_eq_true rfl) rfl ?_
        refine g_goto hX dX7_countedInAll_22 ?_
        exact g_wk (lv0 := [some (.ref (ad Z 32 0)), some (.int (s4_1 + x14)), some (.int (s4_2 + 1))]) ⟨rfl, rfl, rfl, trivial⟩ (g_end (fun h => h))
    · rintro ⟨s4_1, s4_2⟩
      show G _ _ (J Z X 3 cm mm lm 25 [some (.ref (ad Z 32 0)), some (.int s4_1), some (.int s4_2)] [])
      refine g_iload_n hX dX7_countedInAll_25 rfl rfl ?_
      exact g_iret hX (fun h => h) dX7_countedInAll_26
  exact g r h hF

def f_X7_marksOf_B4 (mm : MM) (a1 : Int32) (s4_2 : Int32) (s4_3 : Int32) : Option ((Int32 × Int32) ⊕ (Int32 × Int32)) :=
  (rd 159 (mm 1) 157).bind fun x12 =>
  if x12 ≤ s4_3 then
    some (.inl (s4_2, s4_3))
  else
    (f_X7_isIn a1 s4_3).bind fun x19 =>
    (f_X7_of mm s4_3 0).bind fun x25 =>
    some (.inr (s4_2 + (x19 * x25), s4_3 + 1))

def f_X7_marksOf (mm : MM) (a1 : Int32) : Option (Int32) :=
  (itr (fun s : Int32 × Int32 => f_X7_marksOf_B4 mm a1 s.1 s.2) 2000 (0, 0)).bind fun (s4_2, s4_3) =>
  some s4_2

abbrev rm_X7_marksOf : Room := { frames := 1, cells := 0, slots := 0, locals := 22 }
set_option maxHeartbeats 2000000 in
set_option maxRecDepth 20000 in
theorem c_X7_marksOf {Z : ZC} {cm : CM} {mm : MM} {lm : LM} {a1 : Int32} {r : Int32}  (h : f_X7_marksOf mm a1 = some r) : Ct Z yX7_marksOf cX7_marksOf 4 (some .int) rm_X7_marksOf [.ref (ad Z 32 0), .int a1] cm mm lm (some (.int r)) cm mm lm := by
  refine Ct_of (own := RX7) [some (.ref (ad Z 32 0)), some (.int a1), none, none] ⟨by decide, rfl⟩ rfl (Nat.le_of_ble_eq_true rfl) rfl (fun X hX hF => ?_)
  have g : G (fun r : Int32 => Fx Z X (some .int) (some (.int r)) cm mm lm) (f_X7_marksOf mm a1) (J Z X 4 cm mm lm 0 [some (.ref (ad Z 32 0)), some (.int a1), none, none] []) := by
    unfold f_X7_marksOf
    refine g_iconst hX dX7_marksOf_0 ic_0 ?_
    refine g_istore_n hX dX7_marksOf_1 rfl (Nat.le_of_ble_eq_true rfl) rfl ?_
    refine g_iconst hX dX7_marksOf_2 ic_0 ?_
    refine g_istore_n hX dX7_marksOf_3 rfl (Nat.le_of_ble_eq_true rfl) rfl ?_
    refine g_loop (Hd := fun s : Int32 × Int32 => J Z X 4 cm mm lm 4 [some (.ref (ad Z 32 0)), some (.int a1), some (.int s.1), some (.int s.2)] []) (Ex := fun s : Int32 × Int32 => J Z X 4 cm mm lm 37 [some (.ref (ad Z 32 0)), some (.int a1), some (.int s.1), some (.int s.2)] []) ?_ ?_
    · rintro ⟨s4_2, s4_3⟩
      show G _ (f_X7_marksOf_B4 mm a1 s4_2 s4_3) (J Z X 4 cm mm lm 4 [some (.ref (ad Z 32 0)), some (.int a1), some (.int s4_2), some (.int s4_3)] [])
      unfold f_X7_marksOf_B4
      refine g_iload_n hX dX7_marksOf_4 rfl rfl ?_
      refine g_aload_n hX dX7_marksOf_5 rfl rfl ?_
      refine g_get hX fi_7_7 p7_0 e7_0 rfl dX7_marksOf_6 ?_
      refine g_sipush hX dX7_marksOf_9 sp_157 ?_
      refine g_iald hX p7_1 e7_1 dX7_marksOf_12 ?_
      intro x12 hx12
      refine g_icmp_ge hX dX7_marksOf_13 (fun h13 => ?_) (fun h13 => ?_)
      · exact g_wk (lv0 := [some (.ref (ad Z 32 0)), some (.int a1), some (.int s4_2), some (.int s4_3)]) ⟨rfl, rfl, rfl, rfl, trivial⟩ (g_end (fun h => h))
      · refine g_iload_n hX dX7_marksOf_16 rfl rfl ?_
        refine g_iload_n hX dX7_marksOf_17 rfl rfl ?_
        refine g_iload_n hX dX7_marksOf_18 rfl rfl ?_
        refine g_callS hX (As := [.int a1, .int s4_3]) (fun r => (some (.int r))) (fun _ => cm) (fun _ => mm) (fun _ => lm) (fun r hr => c_X7_isIn  hr) mi_X7_isIn ml_7_120 rfl rfl rfl (Nat.le_of_ble_eq_true rfl) dX7_marksOf_19 ?_
        intro x19 hx19
        refine g_aload_n hX dX7_marksOf_22 rfl rfl ?_
        refine g_iload_n hX dX7_marksOf_23 rfl rfl ?_
        refine g_iconst hX dX7_marksOf_24 ic_0 ?_
        refine g_callV hX (As := [.int s4_3, .int 0]) (fun r => (some (.int r))) (fun _ => cm) (fun _ => mm) (fun _ => lm) (fun r hr => c_X7_of  hr) mi_X7_of ml_7_103 p7_0 e7_0 rfl rfl rfl rfl rfl (Nat.le_of_ble_eq_true rfl) dX7_marksOf_25 ?_
        intro x25 hx25
        refine g_imul hX dX7_marksOf_28 ?_
        refine g_iadd hX dX7_marksOf_29 ?_
        refine g_istore_n hX dX7_marksOf_30 rfl (Nat.le_of_ble_eq_true rfl) rfl ?_
        refine g_iinc hX dX7_marksOf_31 ic_1 rfl (Nat.le_of_ble_eq_true rfl) rfl ?_
        refine g_goto hX dX7_marksOf_34 ?_
        exact g_wk (lv0 := [some (.ref (ad Z 32 0)), some (.int a1), some (.int (s4_2 + (x19 * x25))), some (.int (s4_3 + 1))]) ⟨rfl, rfl, rfl, rfl, trivial⟩ (g_end (fun h => h))
    · rintro ⟨s4_2, s4_3⟩
      show G _ _ (J Z X 4 cm mm lm 37 [some (.ref (ad Z 32 0)), some (.int a1), some (.int s4_2), some (.int s4_3)] [])
      refine g_iload_n hX dX7_marksOf_37 rfl rfl ?_
      exact g_iret hX (fun h => h) dX7_marksOf_38
  exact g r h hF

def f_X7_by (mm : MM) (a1 a2 : Int32) : Option (Int32 × MM) :=
  (f_X7_within a1 0 2).bind fun x3 =>
  if x3 = 0 then
    some ((-2), mm)
  else
    (f_X7_within a2 0 3).bind fun x12 =>
    if x12 = 0 then
      some ((-2), mm)
    else
      (rd 159 (mm 1) 156).bind fun x28 =>
      (wr 159 (mm 1) 156 a1).bind fun g38 =>
      (f_X7_chooseAll (u2 mm 1 g38)).bind fun r40 =>
      (wr 159 (r40 1) 156 x28).bind fun g51 =>
      if a2 = 0 then
        (f_X7_chosen (u2 r40 1 g51)).bind fun x81 =>
        some (x81, u2 r40 1 g51)
      else
      if a2 = 1 then
        (f_X7_chosen (u2 r40 1 g51)).bind fun x86 =>
        (f_X7_sizeOf x86).bind fun x89 =>
        some (x89, u2 r40 1 g51)
      else
      if a2 = 2 then
        (f_X7_chosen (u2 r40 1 g51)).bind fun x95 =>
        (f_X7_marksOf (u2 r40 1 g51) x95).bind fun x98 =>
        some (x98, u2 r40 1 g51)
      else
      (f_X7_countedInAll (u2 r40 1 g51)).bind fun x103 =>
      some (x103, u2 r40 1 g51)

abbrev rm_X7_by : Room := { frames := 7, cells := 0, slots := 0, locals := 157 }
set_option maxHeartbeats 2000000 in
set_option maxRecDepth 20000 in
theorem c_X7_by {Z : ZC} {cm : CM} {mm : MM} {lm : LM} {a1 a2 : Int32} {r : Int32 × MM}  (h : f_X7_by mm a1 a2 = some r) : Ct Z yX7_by cX7_by 4 (some .int) rm_X7_by [.ref (ad Z 32 0), .int a1, .int a2] cm mm lm (some (.int r.1)) cm r.2 lm := by
  refine Ct_of (own := RX7) [some (.ref (ad Z 32 0)), some (.int a1), some (.int a2), none] ⟨by decide, rfl⟩ rfl (Nat.le_of_ble_eq_true rfl) rfl (fun X hX hF => ?_)
  have g : G (fun r : Int32 × MM => Fx Z X (some .int) (some (.int r.1)) cm r.2 lm) (f_X7_by mm a1 a2) (J Z X 4 cm mm lm 0 [some (.ref (ad Z 32 0)), some (.int a1), some (.int a2), none] []) := by
    unfold f_X7_by
    refine g_iload_n hX dX7_by_0 rfl rfl ?_
    refine g_iconst hX dX7_by_1 ic_0 ?_
    refine g_iconst hX dX7_by_2 ic_2 ?_
    refine g_callS hX (As := [.int a1, .int 0, .int 2]) (fun r => (some (.int r))) (fun _ => cm) (fun _ => mm) (fun _ => lm) (fun r hr => c_X7_within  hr) mi_X7_within ml_7_66 rfl rfl rfl (Nat.le_of_ble_eq_true rfl) dX7_by_3 ?_
    intro x3 hx3
    refine g_if_eq hX dX7_by_6 (fun h6 => ?_) (fun h6 => ?_)
    · refine g_bipush hX dX7_by_18 bp_m2 ?_
      exact g_iret hX (fun h => h) dX7_by_20
    · refine g_iload_n hX dX7_by_9 rfl rfl ?_
      refine g_iconst hX dX7_by_10 ic_0 ?_
      refine g_iconst hX dX7_by_11 ic_3 ?_
      refine g_callS hX (As := [.int a2, .int 0, .int 3]) (fun r => (some (.int r))) (fun _ => cm) (fun _ => mm) (fun _ => lm) (fun r hr => c_X7_within  hr) mi_X7_within ml_7_66 rfl rfl rfl (Nat.le_of_ble_eq_true rfl) dX7_by_12 ?_
      intro x12 hx12
      refine g_if_ne hX dX7_by_15 (fun h15 => ?_) (fun h15 => ?_)
      · refine g_bipush hX dX7_by_18 bp_m2 ?_
        exact g_iret hX (fun h => h) dX7_by_20
      · refine g_aload_n hX dX7_by_21 rfl rfl ?_
        refine g_get hX fi_7_7 p7_0 e7_0 rfl dX7_by_22 ?_
        refine g_sipush hX dX7_by_25 sp_156 ?_
        refine g_iald hX p7_1 e7_1 dX7_by_28 ?_
        intro x28 hx28
        refine g_istore_n hX dX7_by_29 rfl (Nat.le_of_ble_eq_true rfl) rfl ?_
        refine g_aload_n hX dX7_by_30 rfl rfl ?_
        refine g_get hX fi_7_7 p7_0 e7_0 rfl dX7_by_31 ?_
        refine g_sipush hX dX7_by_34 sp_156 ?_
        refine g_iload_n hX dX7_by_37 rfl rfl ?_
        refine g_iastM hX p7_1 (s7_1 Z _) dX7_by_38 ?_
        intro g38 hg38
        refine g_aload_n hX dX7_by_39 rfl rfl ?_
        refine g_callV hX (As := []) (fun _ => none) (fun _ => cm) (fun r => r) (fun _ => lm) (fun r hr => c_X7_chooseAll  hr) mi_X7_chooseAll ml_7_190 p7_0 e7_0 rfl rfl rfl rfl rfl (Nat.le_of_ble_eq_true rfl) dX7_by_40 ?_
        intro r40 hr40
        refine g_aload_n hX dX7_by_43 rfl rfl ?_
        refine g_get hX fi_7_7 p7_0 e7_0 rfl dX7_by_44 ?_
        refine g_sipush hX dX7_by_47 sp_156 ?_
        refine g_iload_n hX dX7_by_50 rfl rfl ?_
        refine g_iastM hX p7_1 (s7_1 Z _) dX7_by_51 ?_
        intro g51 hg51
        refine g_iload_n hX dX7_by_52 rfl rfl ?_
        refine g_tsw hX dX7_by_53 0 (by decide) (by decide) rfl rfl (fun h53_0 => ?_) (fun h53_0 => ?_)
        · refine g_aload_n hX dX7_by_80 rfl rfl ?_
          refine g_callV hX (As := []) (fun r => (some (.int r))) (fun _ => cm) (fun _ => u2 r40 1 g51) (fun _ => lm) (fun r hr => c_X7_chosen  hr) mi_X7_chosen ml_7_213 p7_0 e7_0 rfl rfl rfl rfl rfl (Nat.le_of_ble_eq_true rfl) dX7_by_81 ?_
          intro x81 hx81
          exact g_iret hX (fun h => h) dX7_by_84
        refine g_tsw hX dX7_by_53 1 (by decide) (by decide) rfl rfl (fun h53_1 => ?_) (fun h53_1 => ?_)
        · refine g_aload_n hX dX7_by_85 rfl rfl ?_
          refine g_callV hX (As := []) (fun r => (some (.int r))) (fun _ => cm) (fun _ => u2 r40 1 g51) (fun _ => lm) (fun r hr => c_X7_chosen  hr) mi_X7_chosen ml_7_213 p7_0 e7_0 rfl rfl rfl rfl rfl (Nat.le_of_ble_eq_true rfl) dX7_by_86 ?_
          intro x86 hx86
          refine g_callS hX (As := [.int x86]) (fun r => (some (.int r))) (fun _ => cm) (fun _ => u2 r40 1 g51) (fun _ => lm) (fun r hr => c_X7_sizeOf  hr) mi_X7_sizeOf ml_7_217 rfl rfl rfl (Nat.le_of_ble_eq_true rfl) dX7_by_89 ?_
          intro x89 hx89
          exact g_iret hX (fun h => h) dX7_by_92
        refine g_tsw hX dX7_by_53 2 (by decide) (by decide) rfl rfl (fun h53_2 => ?_) (fun h53_2 => ?_)
        · refine g_aload_n hX dX7_by_93 rfl rfl ?_
          refine g_aload_n hX dX7_by_94 rfl rfl ?_
          refine g_callV hX (As := []) (fun r => (some (.int r))) (fun _ => cm) (fun _ => u2 r40 1 g51) (fun _ => lm) (fun r hr => c_X7_chosen  hr) mi_X7_chosen ml_7_213 p7_0 e7_0 rfl rfl rfl rfl rfl (Nat.le_of_ble_eq_true rfl) dX7_by_95 ?_
          intro x95 hx95
          refine g_callV hX (As := [.int x95]) (fun r => (some (.int r))) (fun _ => cm) (fun _ => u2 r40 1 g51) (fun _ => lm) (fun r hr => c_X7_marksOf  hr) mi_X7_marksOf ml_7_220 p7_0 e7_0 rfl rfl rfl rfl rfl (Nat.le_of_ble_eq_true rfl) dX7_by_98 ?_
          intro x98 hx98
          exact g_iret hX (fun h => h) dX7_by_101
        refine g_tsd hX dX7_by_53 (sw_out (n := 3) (fun k hk => match k, hk with | 0, _ => h53_0 | 1, _ => h53_1 | 2, _ => h53_2)) rfl ?_
        refine g_aload_n hX dX7_by_102 rfl rfl ?_
        refine g_callV hX (As := []) (fun r => (some (.int r))) (fun _ => cm) (fun _ => u2 r40 1 g51) (fun _ => lm) (fun r hr => c_X7_countedInAll  hr) mi_X7_countedInAll ml_7_223 p7_0 e7_0 rfl rfl rfl rfl rfl (Nat.le_of_ble_eq_true rfl) dX7_by_103 ?_
        intro x103 hx103
        exact g_iret hX (fun h => h) dX7_by_106
  exact g r h hF

def f_X7_sets_B4 (a1 : Int32) (s4_2 : Int32) (s4_3 : Int32) : Option ((Int32 × Int32) ⊕ (Int32 × Int32)) :=
  if 4 ≤ s4_3 then
    some (.inl (s4_2, s4_3))
  else
    some (.inr (s4_2 ||| (1 <<< (((a1 >>> ((2 * s4_3) &&& 31)) &&& 3) &&& 31)), s4_3 + 1))

def f_X7_sets_B29 (a1 : Int32) (s4_2 : Int32) (s29_3 : Int32) (m29_ : MM) : Option ((Int32 × MM) ⊕ (Int32 × MM)) :=
  if 4 ≤ s29_3 then
    some (.inl (s29_3, m29_))
  else
    if s4_2 = 15 then
      (wr 159 (m29_ 1) (152 + s29_3) ((a1 >>> ((2 * s29_3) &&& 31)) &&& 3)).bind fun g56 =>
      some (.inr (s29_3 + 1, u2 m29_ 1 g56))
    else
      some (.inl (s29_3, m29_))

def f_X7_sets (mm : MM) (a1 : Int32) : Option (Int32 × MM) :=
  (itr (fun s : Int32 × Int32 => f_X7_sets_B4 a1 s.1 s.2) 2000 (0, 0)).bind fun (s4_2, s4_3) =>
  (itr (fun s : Int32 × MM => f_X7_sets_B29 a1 s4_2 s.1 s.2) 2000 (0, mm)).bind fun (s29_3, m29_) =>
  if s4_2 = 15 then
    some (1, m29_)
  else
    some (0, m29_)

abbrev rm_X7_sets : Room := { frames := 0, cells := 0, slots := 0, locals := 0 }
set_option maxHeartbeats 2000000 in
set_option maxRecDepth 20000 in
theorem c_X7_sets {Z : ZC} {cm : CM} {mm : MM} {lm : LM} {a1 : Int32} {r : Int32 × MM}  (h : f_X7_sets mm a1 = some r) : Ct Z yX7_sets cX7_sets 4 (some .boolean) rm_X7_sets [.ref (ad Z 32 0), .int a1] cm mm lm (some (.int r.1)) cm r.2 lm := by
  refine Ct_of (own := RX7) [some (.ref (ad Z 32 0)), some (.int a1), none, none] ⟨by decide, rfl⟩ rfl (Nat.le_of_ble_eq_true rfl) rfl (fun X hX hF => ?_)
  have g : G (fun r : Int32 × MM => Fx Z X (some .boolean) (some (.int r.1)) cm r.2 lm) (f_X7_sets mm a1) (J Z X 4 cm mm lm 0 [some (.ref (ad Z 32 0)), some (.int a1), none, none] []) := by
    unfold f_X7_sets
    refine g_iconst hX dX7_sets_0 ic_0 ?_
    refine g_istore_n hX dX7_sets_1 rfl (Nat.le_of_ble_eq_true rfl) rfl ?_
    refine g_iconst hX dX7_sets_2 ic_0 ?_
    refine g_istore_n hX dX7_sets_3 rfl (Nat.le_of_ble_eq_true rfl) rfl ?_
    refine g_loop (Hd := fun s : Int32 × Int32 => J Z X 4 cm mm lm 4 [some (.ref (ad Z 32 0)), some (.int a1), some (.int s.1), some (.int s.2)] []) (Ex := fun s : Int32 × Int32 => J Z X 4 cm mm lm 27 [some (.ref (ad Z 32 0)), some (.int a1), some (.int s.1), some (.int s.2)] []) ?_ ?_
    · rintro ⟨s4_2, s4_3⟩
      show G _ (f_X7_sets_B4 a1 s4_2 s4_3) (J Z X 4 cm mm lm 4 [some (.ref (ad Z 32 0)), some (.int a1), some (.int s4_2), some (.int s4_3)] [])
      unfold f_X7_sets_B4
      refine g_iload_n hX dX7_sets_4 rfl rfl ?_
      refine g_iconst hX dX7_sets_5 ic_4 ?_
      refine g_icmp_ge hX dX7_sets_6 (fun h6 => ?_) (fun h6 => ?_)
      · exact g_wk (lv0 := [some (.ref (ad Z 32 0)), some (.int a1), some (.int s4_2), some (.int s4_3)]) ⟨rfl, rfl, rfl, rfl, trivial⟩ (g_end (fun h => h))
      · refine g_iload_n hX dX7_sets_9 rfl rfl ?_
        refine g_iconst hX dX7_sets_10 ic_1 ?_
        refine g_iload_n hX dX7_sets_11 rfl rfl ?_
        refine g_iconst hX dX7_sets_12 ic_2 ?_
        refine g_iload_n hX dX7_sets_13 rfl rfl ?_
        refine g_imul hX dX7_sets_14 ?_
        refine g_ishr hX dX7_sets_15 ?_
        refine g_iconst hX dX7_sets_16 ic_3 ?_
        refine g_iand hX dX7_sets_17 ?_
        refine g_ishl hX dX7_sets_18 ?_
        refine g_ior hX dX7_sets_19 ?_
        refine g_istore_n hX dX7_sets_20 rfl (Nat.le_of_ble_eq_true rfl) rfl ?_
        refine g_iinc hX dX7_sets_21 ic_1 rfl (Nat.le_of_ble_eq_true rfl) rfl ?_
        refine g_goto hX dX7_sets_24 ?_
        exact g_wk (lv0 := [some (.ref (ad Z 32 0)), some (.int a1), some (.int (s4_2 ||| (1 <<< (((a1 >>> ((2 * s4_3) &&& 31)) &&& 3) &&& 31)))), some (.int (s4_3 + 1))]) ⟨rfl, rfl, rfl, rfl, trivial⟩ (g_end (fun h => h))
    · rintro ⟨s4_2, s4_3⟩
      show G _ _ (J Z X 4 cm mm lm 27 [some (.ref (ad Z 32 0)), some (.int a1), some (.int s4_2), some (.int s4_3)] [])
      refine g_iconst hX dX7_sets_27 ic_0 ?_
      refine g_istore_n hX dX7_sets_28 rfl (Nat.le_of_ble_eq_true rfl) rfl ?_
      refine g_loop (Hd := fun s : Int32 × MM => J Z X 4 cm s.2 lm 29 [some (.ref (ad Z 32 0)), some (.int a1), some (.int s4_2), some (.int s.1)] []) (Ex := fun s : Int32 × MM => J Z X 4 cm s.2 lm 63 [some (.ref (ad Z 32 0)), some (.int a1), some (.int s4_2), some (.int s.1)] []) ?_ ?_
      · rintro ⟨s29_3, m29_⟩
        show G _ (f_X7_sets_B29 a1 s4_2 s29_3 m29_) (J Z X 4 cm m29_ lm 29 [some (.ref (ad Z 32 0)), some (.int a1), some (.int s4_2), some (.int s29_3)] [])
        unfold f_X7_sets_B29
        refine g_iload_n hX dX7_sets_29 rfl rfl ?_
        refine g_iconst hX dX7_sets_30 ic_4 ?_
        refine g_icmp_ge hX dX7_sets_31 (fun h31 => ?_) (fun h31 => ?_)
        · exact g_wk (lv0 := [some (.ref (ad Z 32 0)), some (.int a1), some (.int s4_2), some (.int s29_3)]) ⟨rfl, rfl, rfl, rfl, trivial⟩ (g_end (fun h => h))
        · refine g_iload_n hX dX7_sets_34 rfl rfl ?_
          refine g_bipush hX dX7_sets_35 bp_15 ?_
          refine g_icmp_ne hX dX7_sets_37 (fun h37 => ?_) (fun h37 => ?_)
          · refine g_aload_n hX dX7_sets_40 rfl rfl ?_
            refine g_get hX fi_7_7 p7_0 e7_0 rfl dX7_sets_41 ?_
            refine g_sipush hX dX7_sets_44 sp_152 ?_
            refine g_iload_n hX dX7_sets_47 rfl rfl ?_
            refine g_iadd hX dX7_sets_48 ?_
            refine g_iload_n hX dX7_sets_49 rfl rfl ?_
            refine g_iconst hX dX7_sets_50 ic_2 ?_
            refine g_iload_n hX dX7_sets_51 rfl rfl ?_
            refine g_imul hX dX7_sets_52 ?_
            refine g_ishr hX dX7_sets_53 ?_
            refine g_iconst hX dX7_sets_54 ic_3 ?_
            refine g_iand hX dX7_sets_55 ?_
            refine g_iastM hX p7_1 (s7_1 Z _) dX7_sets_56 ?_
            intro g56 hg56
            refine g_iinc hX dX7_sets_57 ic_1 rfl (Nat.le_of_ble_eq_true rfl) rfl ?_
            refine g_goto hX dX7_sets_60 ?_
            exact g_wk (lv0 := [some (.ref (ad Z 32 0)), some (.int a1), some (.int s4_2), some (.int (s29_3 + 1))]) ⟨rfl, rfl, rfl, rfl, trivial⟩ (g_end (fun h => h))
          · exact g_wk (lv0 := [some (.ref (ad Z 32 0)), some (.int a1), some (.int s4_2), some (.int s29_3)]) ⟨rfl, rfl, rfl, rfl, trivial⟩ (g_end (fun h => h))
      · rintro ⟨s29_3, m29_⟩
        show G _ _ (J Z X 4 cm m29_ lm 63 [some (.ref (ad Z 32 0)), some (.int a1), some (.int s4_2), some (.int s29_3)] [])
        refine g_iload_n hX dX7_sets_63 rfl rfl ?_
        refine g_bipush hX dX7_sets_64 bp_15 ?_
        refine g_icmp_ne hX dX7_sets_66 (fun h66 => ?_) (fun h66 => ?_)
        · refine g_iconst hX dX7_sets_69 ic_1 ?_
          refine g_goto hX dX7_sets_70 ?_
          exact g_zret hX (by decide) (fun h => h) dX7_sets_74
        · refine g_iconst hX dX7_sets_73 ic_0 ?_
          exact g_zret hX (by decide) (fun h => h) dX7_sets_74
  exact g r h hF

def f_X7_sure_B75 (s75_3 : Int32) (s75_4 : Int32) (s75_5 : Int32) (m75_ : MM) : Option ((Int32 × Int32 × Int32 × MM) ⊕ (Int32 × Int32 × Int32 × MM)) :=
  if 256 ≤ s75_5 then
    some (.inl (s75_3, s75_4, s75_5, m75_))
  else
    (f_X7_sets m75_ s75_5).bind fun r86 =>
    if r86.1 = 0 then
      some (.inr (s75_3, s75_4, s75_5 + 1, r86.2))
    else
      (f_X7_choose r86.2).bind fun r93 =>
      (f_X7_chosen r93).bind fun x98 =>
      (f_X7_chosen r93).bind fun x106 =>
      some (.inr (s75_3 &&& x98, s75_4 ||| x106, s75_5 + 1, r93))

def f_X7_sure (mm : MM) (a1 : Int32) : Option (Int32 × MM) :=
  (f_X7_within a1 0 1).bind fun x3 =>
  if x3 = 0 then
    some ((-2), mm)
  else
    (rd 159 (mm 1) 152).bind fun x19 =>
    (rd 159 (mm 1) 153).bind fun x28 =>
    (rd 159 (mm 1) 154).bind fun x40 =>
    (rd 159 (mm 1) 155).bind fun x52 =>
    (rd 159 (mm 1) 157).bind fun x64 =>
    (itr (fun s : Int32 × Int32 × Int32 × MM => f_X7_sure_B75 s.1 s.2.1 s.2.2.1 s.2.2.2) 2000 ((1 <<< (x64 &&& 31)) - 1, 0, 0, mm)).bind fun (s75_3, s75_4, s75_5, m75_) =>
    (f_X7_sets m75_ (((x19 + (4 * x28)) + (16 * x40)) + (64 * x52))).bind fun r120 =>
    if a1 = 0 then
      some (s75_3, r120.2)
    else
      some (s75_4, r120.2)

abbrev rm_X7_sure : Room := { frames := 6, cells := 0, slots := 0, locals := 136 }
set_option maxHeartbeats 2000000 in
set_option maxRecDepth 20000 in
theorem c_X7_sure {Z : ZC} {cm : CM} {mm : MM} {lm : LM} {a1 : Int32} {r : Int32 × MM}  (h : f_X7_sure mm a1 = some r) : Ct Z yX7_sure cX7_sure 6 (some .int) rm_X7_sure [.ref (ad Z 32 0), .int a1] cm mm lm (some (.int r.1)) cm r.2 lm := by
  refine Ct_of (own := RX7) [some (.ref (ad Z 32 0)), some (.int a1), none, none, none, none] ⟨by decide, rfl⟩ rfl (Nat.le_of_ble_eq_true rfl) rfl (fun X hX hF => ?_)
  have g : G (fun r : Int32 × MM => Fx Z X (some .int) (some (.int r.1)) cm r.2 lm) (f_X7_sure mm a1) (J Z X 6 cm mm lm 0 [some (.ref (ad Z 32 0)), some (.int a1), none, none, none, none] []) := by
    unfold f_X7_sure
    refine g_iload_n hX dX7_sure_0 rfl rfl ?_
    refine g_iconst hX dX7_sure_1 ic_0 ?_
    refine g_iconst hX dX7_sure_2 ic_1 ?_
    refine g_callS hX (As := [.int a1, .int 0, .int 1]) (fun r => (some (.int r))) (fun _ => cm) (fun _ => mm) (fun _ => lm) (fun r hr => c_X7_within  hr) mi_X7_within ml_7_66 rfl rfl rfl (Nat.le_of_ble_eq_true rfl) dX7_sure_3 ?_
    intro x3 hx3
    refine g_if_ne hX dX7_sure_6 (fun h6 => ?_) (fun h6 => ?_)
    · refine g_bipush hX dX7_sure_9 bp_m2 ?_
      exact g_iret hX (fun h => h) dX7_sure_11
    · refine g_aload_n hX dX7_sure_12 rfl rfl ?_
      refine g_get hX fi_7_7 p7_0 e7_0 rfl dX7_sure_13 ?_
      refine g_sipush hX dX7_sure_16 sp_152 ?_
      refine g_iald hX p7_1 e7_1 dX7_sure_19 ?_
      intro x19 hx19
      refine g_iconst hX dX7_sure_20 ic_4 ?_
      refine g_aload_n hX dX7_sure_21 rfl rfl ?_
      refine g_get hX fi_7_7 p7_0 e7_0 rfl dX7_sure_22 ?_
      refine g_sipush hX dX7_sure_25 sp_153 ?_
      refine g_iald hX p7_1 e7_1 dX7_sure_28 ?_
      intro x28 hx28
      refine g_imul hX dX7_sure_29 ?_
      refine g_iadd hX dX7_sure_30 ?_
      refine g_bipush hX dX7_sure_31 bp_16 ?_
      refine g_aload_n hX dX7_sure_33 rfl rfl ?_
      refine g_get hX fi_7_7 p7_0 e7_0 rfl dX7_sure_34 ?_
      refine g_sipush hX dX7_sure_37 sp_154 ?_
      refine g_iald hX p7_1 e7_1 dX7_sure_40 ?_
      intro x40 hx40
      refine g_imul hX dX7_sure_41 ?_
      refine g_iadd hX dX7_sure_42 ?_
      refine g_bipush hX dX7_sure_43 bp_64 ?_
      refine g_aload_n hX dX7_sure_45 rfl rfl ?_
      refine g_get hX fi_7_7 p7_0 e7_0 rfl dX7_sure_46 ?_
      refine g_sipush hX dX7_sure_49 sp_155 ?_
      refine g_iald hX p7_1 e7_1 dX7_sure_52 ?_
      intro x52 hx52
      refine g_imul hX dX7_sure_53 ?_
      refine g_iadd hX dX7_sure_54 ?_
      refine g_istore_n hX dX7_sure_55 rfl (Nat.le_of_ble_eq_true rfl) rfl ?_
      refine g_iconst hX dX7_sure_56 ic_1 ?_
      refine g_aload_n hX dX7_sure_57 rfl rfl ?_
      refine g_get hX fi_7_7 p7_0 e7_0 rfl dX7_sure_58 ?_
      refine g_sipush hX dX7_sure_61 sp_157 ?_
      refine g_iald hX p7_1 e7_1 dX7_sure_64 ?_
      intro x64 hx64
      refine g_ishl hX dX7_sure_65 ?_
      refine g_iconst hX dX7_sure_66 ic_1 ?_
      refine g_isub hX dX7_sure_67 ?_
      refine g_istore_n hX dX7_sure_68 rfl (Nat.le_of_ble_eq_true rfl) rfl ?_
      refine g_iconst hX dX7_sure_69 ic_0 ?_
      refine g_istore hX dX7_sure_70 (Nat.le_of_ble_eq_true rfl) rfl ?_
      refine g_iconst hX dX7_sure_72 ic_0 ?_
      refine g_istore hX dX7_sure_73 (Nat.le_of_ble_eq_true rfl) rfl ?_
      refine g_loop (Hd := fun s : Int32 × Int32 × Int32 × MM => J Z X 6 cm s.2.2.2 lm 75 [some (.ref (ad Z 32 0)), some (.int a1), some (.int (((x19 + (4 * x28)) + (16 * x40)) + (64 * x52))), some (.int s.1), some (.int s.2.1), some (.int s.2.2.1)] []) (Ex := fun s : Int32 × Int32 × Int32 × MM => J Z X 6 cm s.2.2.2 lm 118 [some (.ref (ad Z 32 0)), some (.int a1), some (.int (((x19 + (4 * x28)) + (16 * x40)) + (64 * x52))), some (.int s.1), some (.int s.2.1), some (.int s.2.2.1)] []) ?_ ?_
      · rintro ⟨s75_3, s75_4, s75_5, m75_⟩
        show G _ (f_X7_sure_B75 s75_3 s75_4 s75_5 m75_) (J Z X 6 cm m75_ lm 75 [some (.ref (ad Z 32 0)), some (.int a1), some (.int (((x19 + (4 * x28)) + (16 * x40)) + (64 * x52))), some (.int s75_3), some (.int s75_4), some (.int s75_5)] [])
        unfold f_X7_sure_B75
        refine g_iload hX dX7_sure_75 rfl ?_
        refine g_sipush hX dX7_sure_77 sp_256 ?_
        refine g_icmp_ge hX dX7_sure_80 (fun h80 => ?_) (fun h80 => ?_)
        · exact g_wk (lv0 := [some (.ref (ad Z 32 0)), some (.int a1), some (.int (((x19 + (4 * x28)) + (16 * x40)) + (64 * x52))), some (.int s75_3), some (.int s75_4), some (.int s75_5)]) ⟨rfl, rfl, rfl, rfl, rfl, rfl, trivial⟩ (g_end (fun h => h))
        · refine g_aload_n hX dX7_sure_83 rfl rfl ?_
          refine g_iload hX dX7_sure_84 rfl ?_
          refine g_callV hX (As := [.int s75_5]) (fun r => (some (.int r.1))) (fun _ => cm) (fun r => r.2) (fun _ => lm) (fun r hr => c_X7_sets  hr) mi_X7_sets ml_7_226 p7_0 e7_0 rfl rfl rfl rfl rfl (Nat.le_of_ble_eq_true rfl) dX7_sure_86 ?_
          intro r86 hr86
          refine g_if_eq hX dX7_sure_89 (fun h89 => ?_) (fun h89 => ?_)
          · refine g_iinc hX dX7_sure_112 ic_1 rfl (Nat.le_of_ble_eq_true rfl) rfl ?_
            refine g_goto hX dX7_sure_115 ?_
            exact g_wk (lv0 := [some (.ref (ad Z 32 0)), some (.int a1), some (.int (((x19 + (4 * x28)) + (16 * x40)) + (64 * x52))), some (.int s75_3), some (.int s75_4), some (.int (s75_5 + 1))]) ⟨rfl, rfl, rfl, rfl, rfl, rfl, trivial⟩ (g_end (fun h => h))
          · refine g_aload_n hX dX7_sure_92 rfl rfl ?_
            refine g_callV hX (As := []) (fun _ => none) (fun _ => cm) (fun r => r) (fun _ => lm) (fun r hr => c_X7_choose  hr) mi_X7_choose ml_7_184 p7_0 e7_0 rfl rfl rfl rfl rfl (Nat.le_of_ble_eq_true rfl) dX7_sure_93 ?_
            intro r93 hr93
            refine g_iload_n hX dX7_sure_96 rfl rfl ?_
            refine g_aload_n hX dX7_sure_97 rfl rfl ?_
            refine g_callV hX (As := []) (fun r => (some (.int r))) (fun _ => cm) (fun _ => r93) (fun _ => lm) (fun r hr => c_X7_chosen  hr) mi_X7_chosen ml_7_213 p7_0 e7_0 rfl rfl rfl rfl rfl (Nat.le_of_ble_eq_true rfl) dX7_sure_98 ?_
            intro x98 hx98
            refine g_iand hX dX7_sure_101 ?_
            refine g_istore_n hX dX7_sure_102 rfl (Nat.le_of_ble_eq_true rfl) rfl ?_
            refine g_iload hX dX7_sure_103 rfl ?_
            refine g_aload_n hX dX7_sure_105 rfl rfl ?_
            refine g_callV hX (As := []) (fun r => (some (.int r))) (fun _ => cm) (fun _ => r93) (fun _ => lm) (fun r hr => c_X7_chosen  hr) mi_X7_chosen ml_7_213 p7_0 e7_0 rfl rfl rfl rfl rfl (Nat.le_of_ble_eq_true rfl) dX7_sure_106 ?_
            intro x106 hx106
            refine g_ior hX dX7_sure_109 ?_
            refine g_istore hX dX7_sure_110 (Nat.le_of_ble_eq_true rfl) rfl ?_
            refine g_iinc hX dX7_sure_112 ic_1 rfl (Nat.le_of_ble_eq_true rfl) rfl ?_
            refine g_goto hX dX7_sure_115 ?_
            exact g_wk (lv0 := [some (.ref (ad Z 32 0)), some (.int a1), some (.int (((x19 + (4 * x28)) + (16 * x40)) + (64 * x52))), some (.int (s75_3 &&& x98)), some (.int (s75_4 ||| x106)), some (.int (s75_5 + 1))]) ⟨rfl, rfl, rfl, rfl, rfl, rfl, trivial⟩ (g_end (fun h => h))
      · rintro ⟨s75_3, s75_4, s75_5, m75_⟩
        show G _ _ (J Z X 6 cm m75_ lm 118 [some (.ref (ad Z 32 0)), some (.int a1), some (.int (((x19 + (4 * x28)) + (16 * x40)) + (64 * x52))), some (.int s75_3), some (.int s75_4), some (.int s75_5)] [])
        refine g_aload_n hX dX7_sure_118 rfl rfl ?_
        refine g_iload_n hX dX7_sure_119 rfl rfl ?_
        refine g_callV hX (As := [.int (((x19 + (4 * x28)) + (16 * x40)) + (64 * x52))]) (fun r => (some (.int r.1))) (fun _ => cm) (fun r => r.2) (fun _ => lm) (fun r hr => c_X7_sets  hr) mi_X7_sets ml_7_226 p7_0 e7_0 rfl rfl rfl rfl rfl (Nat.le_of_ble_eq_true rfl) dX7_sure_120 ?_
        intro r120 hr120
        refine g_pop hX dX7_sure_123 rfl ?_
        refine g_iload_n hX dX7_sure_124 rfl rfl ?_
        refine g_if_ne hX dX7_sure_125 (fun h125 => ?_) (fun h125 => ?_)
        · refine g_iload_n hX dX7_sure_128 rfl rfl ?_
          refine g_goto hX dX7_sure_129 ?_
          exact g_iret hX (fun h => h) dX7_sure_134
        · refine g_iload hX dX7_sure_132 rfl ?_
          exact g_iret hX (fun h => h) dX7_sure_134
  exact g r h hF

def f_X7_isChosen (mm : MM) (a1 : Int32) : Option (Int32 × MM) :=
  (f_X7_choose mm).bind fun r1 =>
  (rd 16 (r1 8) a1).bind fun x9 =>
  if x9 = (-9) then
    some (0, r1)
  else
    some (1, r1)

abbrev rm_X7_isChosen : Room := { frames := 6, cells := 0, slots := 0, locals := 136 }
set_option maxHeartbeats 2000000 in
set_option maxRecDepth 20000 in
theorem c_X7_isChosen {Z : ZC} {cm : CM} {mm : MM} {lm : LM} {a1 : Int32} {r : Int32 × MM}  (h : f_X7_isChosen mm a1 = some r) : Ct Z yX7_isChosen cX7_isChosen 2 (some .boolean) rm_X7_isChosen [.ref (ad Z 32 0), .int a1] cm mm lm (some (.int r.1)) cm r.2 lm := by
  refine Ct_of (own := RX7) [some (.ref (ad Z 32 0)), some (.int a1)] ⟨by decide, rfl⟩ rfl (Nat.le_of_ble_eq_true rfl) rfl (fun X hX hF => ?_)
  have g : G (fun r : Int32 × MM => Fx Z X (some .boolean) (some (.int r.1)) cm r.2 lm) (f_X7_isChosen mm a1) (J Z X 2 cm mm lm 0 [some (.ref (ad Z 32 0)), some (.int a1)] []) := by
    unfold f_X7_isChosen
    refine g_aload_n hX dX7_isChosen_0 rfl rfl ?_
    refine g_callV hX (As := []) (fun _ => none) (fun _ => cm) (fun r => r) (fun _ => lm) (fun r hr => c_X7_choose  hr) mi_X7_choose ml_7_184 p7_0 e7_0 rfl rfl rfl rfl rfl (Nat.le_of_ble_eq_true rfl) dX7_isChosen_1 ?_
    intro r1 hr1
    refine g_aload_n hX dX7_isChosen_4 rfl rfl ?_
    refine g_get hX fi_7_31 p7_0 e7_0 rfl dX7_isChosen_5 ?_
    refine g_iload_n hX dX7_isChosen_8 rfl rfl ?_
    refine g_iald hX p7_8 e7_8 dX7_isChosen_9 ?_
    intro x9 hx9
    refine g_bipush hX dX7_isChosen_10 bp_m9 ?_
    refine g_icmp_eq hX dX7_isChosen_12 (fun h12 => ?_) (fun h12 => ?_)
    · refine g_iconst hX dX7_isChosen_19 ic_0 ?_
      exact g_zret hX (by decide) (fun h => h) dX7_isChosen_20
    · refine g_iconst hX dX7_isChosen_15 ic_1 ?_
      refine g_goto hX dX7_isChosen_16 ?_
      exact g_zret hX (by decide) (fun h => h) dX7_isChosen_20
  exact g r h hF

def f_X7_thresholdOf_B13 (a1 : Int32) (s13_3 : Int32) (s13_4 : Int32) (m13_ : MM) : Option ((Int32 × Int32 × MM) ⊕ (Int32 × Int32 × MM)) :=
  if 99 < s13_4 then
    some (.inl (s13_3, s13_4, m13_))
  else
    if s13_3 = (-9) then
      (f_X7_become m13_ a1 0 s13_4).bind fun r31 =>
      (f_X7_isChosen r31 a1).bind fun r36 =>
      if r36.1 = 0 then
        some (.inr ((-9), s13_4 + 1, r36.2))
      else
        some (.inr (s13_4, s13_4 + 1, r36.2))
    else
      some (.inl (s13_3, s13_4, m13_))

def f_X7_thresholdOf (mm : MM) (a1 : Int32) : Option (Int32 × MM) :=
  (f_X7_of mm a1 0).bind fun x3 =>
  (itr (fun s : Int32 × Int32 × MM => f_X7_thresholdOf_B13 a1 s.1 s.2.1 s.2.2) 2000 ((-9), 0, mm)).bind fun (s13_3, s13_4, m13_) =>
  (f_X7_become m13_ a1 0 x3).bind fun r60 =>
  some (s13_3, r60)

abbrev rm_X7_thresholdOf : Room := { frames := 7, cells := 0, slots := 0, locals := 157 }
set_option maxHeartbeats 2000000 in
set_option maxRecDepth 20000 in
theorem c_X7_thresholdOf {Z : ZC} {cm : CM} {mm : MM} {lm : LM} {a1 : Int32} {r : Int32 × MM}  (h : f_X7_thresholdOf mm a1 = some r) : Ct Z yX7_thresholdOf cX7_thresholdOf 5 (some .int) rm_X7_thresholdOf [.ref (ad Z 32 0), .int a1] cm mm lm (some (.int r.1)) cm r.2 lm := by
  refine Ct_of (own := RX7) [some (.ref (ad Z 32 0)), some (.int a1), none, none, none] ⟨by decide, rfl⟩ rfl (Nat.le_of_ble_eq_true rfl) rfl (fun X hX hF => ?_)
  have g : G (fun r : Int32 × MM => Fx Z X (some .int) (some (.int r.1)) cm r.2 lm) (f_X7_thresholdOf mm a1) (J Z X 5 cm mm lm 0 [some (.ref (ad Z 32 0)), some (.int a1), none, none, none] []) := by
    unfold f_X7_thresholdOf
    refine g_aload_n hX dX7_thresholdOf_0 rfl rfl ?_
    refine g_iload_n hX dX7_thresholdOf_1 rfl rfl ?_
    refine g_iconst hX dX7_thresholdOf_2 ic_0 ?_
    refine g_callV hX (As := [.int a1, .int 0]) (fun r => (some (.int r))) (fun _ => cm) (fun _ => mm) (fun _ => lm) (fun r hr => c_X7_of  hr) mi_X7_of ml_7_103 p7_0 e7_0 rfl rfl rfl rfl rfl (Nat.le_of_ble_eq_true rfl) dX7_thresholdOf_3 ?_
    intro x3 hx3
    refine g_istore_n hX dX7_thresholdOf_6 rfl (Nat.le_of_ble_eq_true rfl) rfl ?_
    refine g_bipush hX dX7_thresholdOf_7 bp_m9 ?_
    refine g_istore_n hX dX7_thresholdOf_9 rfl (Nat.le_of_ble_eq_true rfl) rfl ?_
    refine g_iconst hX dX7_thresholdOf_10 ic_0 ?_
    refine g_istore hX dX7_thresholdOf_11 (Nat.le_of_ble_eq_true rfl) rfl ?_
    refine g_loop (Hd := fun s : Int32 × Int32 × MM => J Z X 5 cm s.2.2 lm 13 [some (.ref (ad Z 32 0)), some (.int a1), some (.int x3), some (.int s.1), some (.int s.2.1)] []) (Ex := fun s : Int32 × Int32 × MM => J Z X 5 cm s.2.2 lm 56 [some (.ref (ad Z 32 0)), some (.int a1), some (.int x3), some (.int s.1), some (.int s.2.1)] []) ?_ ?_
    · rintro ⟨s13_3, s13_4, m13_⟩
      show G _ (f_X7_thresholdOf_B13 a1 s13_3 s13_4 m13_) (J Z X 5 cm m13_ lm 13 [some (.ref (ad Z 32 0)), some (.int a1), some (.int x3), some (.int s13_3), some (.int s13_4)] [])
      unfold f_X7_thresholdOf_B13
      refine g_iload hX dX7_thresholdOf_13 rfl ?_
      refine g_bipush hX dX7_thresholdOf_15 bp_99 ?_
      refine g_icmp_gt hX dX7_thresholdOf_17 (fun h17 => ?_) (fun h17 => ?_)
      · exact g_wk (lv0 := [some (.ref (ad Z 32 0)), some (.int a1), some (.int x3), some (.int s13_3), some (.int s13_4)]) ⟨rfl, rfl, rfl, rfl, rfl, trivial⟩ (g_end (fun h => h))
      · refine g_iload_n hX dX7_thresholdOf_20 rfl rfl ?_
        refine g_bipush hX dX7_thresholdOf_21 bp_m9 ?_
        refine g_icmp_ne hX dX7_thresholdOf_23 (fun h23 => ?_) (fun h23 => ?_)
        · refine g_aload_n hX dX7_thresholdOf_26 rfl rfl ?_
          refine g_iload_n hX dX7_thresholdOf_27 rfl rfl ?_
          refine g_iconst hX dX7_thresholdOf_28 ic_0 ?_
          refine g_iload hX dX7_thresholdOf_29 rfl ?_
          refine g_callV hX (As := [.int a1, .int 0, .int s13_4]) (fun _ => none) (fun _ => cm) (fun r => r) (fun _ => lm) (fun r hr => c_X7_become  hr) mi_X7_become ml_7_84 p7_0 e7_0 rfl rfl rfl rfl rfl (Nat.le_of_ble_eq_true rfl) dX7_thresholdOf_31 ?_
          intro r31 hr31
          refine g_aload_n hX dX7_thresholdOf_34 rfl rfl ?_
          refine g_iload_n hX dX7_thresholdOf_35 rfl rfl ?_
          refine g_callV hX (As := [.int a1]) (fun r => (some (.int r.1))) (fun _ => cm) (fun r => r.2) (fun _ => lm) (fun r hr => c_X7_isChosen  hr) mi_X7_isChosen ml_7_229 p7_0 e7_0 rfl rfl rfl rfl rfl (Nat.le_of_ble_eq_true rfl) dX7_thresholdOf_36 ?_
          intro r36 hr36
          refine g_if_eq hX dX7_thresholdOf_39 (fun h39 => ?_) (fun h39 => ?_)
          · refine g_bipush hX dX7_thresholdOf_47 bp_m9 ?_
            refine g_istore_n hX dX7_thresholdOf_49 rfl (Nat.le_of_ble_eq_true rfl) rfl ?_
            refine g_iinc hX dX7_thresholdOf_50 ic_1 rfl (Nat.le_of_ble_eq_true rfl) rfl ?_
            refine g_goto hX dX7_thresholdOf_53 ?_
            exact g_wk (lv0 := [some (.ref (ad Z 32 0)), some (.int a1), some (.int x3), some (.int (-9)), some (.int (s13_4 + 1))]) ⟨rfl, rfl, rfl, rfl, rfl, trivial⟩ (g_end (fun h => h))
          · refine g_iload hX dX7_thresholdOf_42 rfl ?_
            refine g_goto hX dX7_thresholdOf_44 ?_
            refine g_istore_n hX dX7_thresholdOf_49 rfl (Nat.le_of_ble_eq_true rfl) rfl ?_
            refine g_iinc hX dX7_thresholdOf_50 ic_1 rfl (Nat.le_of_ble_eq_true rfl) rfl ?_
            refine g_goto hX dX7_thresholdOf_53 ?_
            exact g_wk (lv0 := [some (.ref (ad Z 32 0)), some (.int a1), some (.int x3), some (.int s13_4), some (.int (s13_4 + 1))]) ⟨rfl, rfl, rfl, rfl, rfl, trivial⟩ (g_end (fun h => h))
        · exact g_wk (lv0 := [some (.ref (ad Z 32 0)), some (.int a1), some (.int x3), some (.int s13_3), some (.int s13_4)]) ⟨rfl, rfl, rfl, rfl, rfl, trivial⟩ (g_end (fun h => h))
    · rintro ⟨s13_3, s13_4, m13_⟩
      show G _ _ (J Z X 5 cm m13_ lm 56 [some (.ref (ad Z 32 0)), some (.int a1), some (.int x3), some (.int s13_3), some (.int s13_4)] [])
      refine g_aload_n hX dX7_thresholdOf_56 rfl rfl ?_
      refine g_iload_n hX dX7_thresholdOf_57 rfl rfl ?_
      refine g_iconst hX dX7_thresholdOf_58 ic_0 ?_
      refine g_iload_n hX dX7_thresholdOf_59 rfl rfl ?_
      refine g_callV hX (As := [.int a1, .int 0, .int x3]) (fun _ => none) (fun _ => cm) (fun r => r) (fun _ => lm) (fun r hr => c_X7_become  hr) mi_X7_become ml_7_84 p7_0 e7_0 rfl rfl rfl rfl rfl (Nat.le_of_ble_eq_true rfl) dX7_thresholdOf_60 ?_
      intro r60 hr60
      refine g_iload_n hX dX7_thresholdOf_63 rfl rfl ?_
      exact g_iret hX (fun h => h) dX7_thresholdOf_64
  exact g r h hF

def f_X7_threshold (mm : MM) (a1 : Int32) : Option (Int32 × MM) :=
  (f_X7_isPerson mm a1).bind fun x2 =>
  if x2 = 0 then
    some ((-1), mm)
  else
    (f_X7_takesPart mm a1).bind fun x12 =>
    if x12 = 0 then
      some ((-3), mm)
    else
      (f_X7_thresholdOf mm a1).bind fun r20 =>
      some (r20.1, r20.2)

abbrev rm_X7_threshold : Room := { frames := 8, cells := 0, slots := 0, locals := 181 }
set_option maxHeartbeats 2000000 in
set_option maxRecDepth 20000 in
theorem c_X7_threshold {Z : ZC} {cm : CM} {mm : MM} {lm : LM} {a1 : Int32} {r : Int32 × MM}  (h : f_X7_threshold mm a1 = some r) : Ct Z yX7_threshold cX7_threshold 2 (some .int) rm_X7_threshold [.ref (ad Z 32 0), .int a1] cm mm lm (some (.int r.1)) cm r.2 lm := by
  refine Ct_of (own := RX7) [some (.ref (ad Z 32 0)), some (.int a1)] ⟨by decide, rfl⟩ rfl (Nat.le_of_ble_eq_true rfl) rfl (fun X hX hF => ?_)
  have g : G (fun r : Int32 × MM => Fx Z X (some .int) (some (.int r.1)) cm r.2 lm) (f_X7_threshold mm a1) (J Z X 2 cm mm lm 0 [some (.ref (ad Z 32 0)), some (.int a1)] []) := by
    unfold f_X7_threshold
    refine g_aload_n hX dX7_threshold_0 rfl rfl ?_
    refine g_iload_n hX dX7_threshold_1 rfl rfl ?_
    refine g_callV hX (As := [.int a1]) (fun r => (some (.int r))) (fun _ => cm) (fun _ => mm) (fun _ => lm) (fun r hr => c_X7_isPerson  hr) mi_X7_isPerson ml_7_92 p7_0 e7_0 rfl rfl rfl rfl rfl (Nat.le_of_ble_eq_true rfl) dX7_threshold_2 ?_
    intro x2 hx2
    refine g_if_ne hX dX7_threshold_5 (fun h5 => ?_) (fun h5 => ?_)
    · refine g_iconst hX dX7_threshold_8 ic_m1 ?_
      exact g_iret hX (fun h => h) dX7_threshold_9
    · refine g_aload_n hX dX7_threshold_10 rfl rfl ?_
      refine g_iload_n hX dX7_threshold_11 rfl rfl ?_
      refine g_callV hX (As := [.int a1]) (fun r => (some (.int r))) (fun _ => cm) (fun _ => mm) (fun _ => lm) (fun r hr => c_X7_takesPart  hr) mi_X7_takesPart ml_7_126 p7_0 e7_0 rfl rfl rfl rfl rfl (Nat.le_of_ble_eq_true rfl) dX7_threshold_12 ?_
      intro x12 hx12
      refine g_if_eq hX dX7_threshold_15 (fun h15 => ?_) (fun h15 => ?_)
      · refine g_bipush hX dX7_threshold_26 bp_m3 ?_
        exact g_iret hX (fun h => h) dX7_threshold_28
      · refine g_aload_n hX dX7_threshold_18 rfl rfl ?_
        refine g_iload_n hX dX7_threshold_19 rfl rfl ?_
        refine g_callV hX (As := [.int a1]) (fun r => (some (.int r.1))) (fun _ => cm) (fun r => r.2) (fun _ => lm) (fun r hr => c_X7_thresholdOf  hr) mi_X7_thresholdOf ml_7_232 p7_0 e7_0 rfl rfl rfl rfl rfl (Nat.le_of_ble_eq_true rfl) dX7_threshold_20 ?_
        intro r20 hr20
        refine g_goto hX dX7_threshold_23 ?_
        exact g_iret hX (fun h => h) dX7_threshold_28
  exact g r h hF

def f_X7_claim_B34 (a1 : Int32) (x24 : Int32) (s34_3 : Int32) (s34_4 : Int32) (m34_ : MM) : Option ((Int32 × Int32 × MM) ⊕ (Int32 × Int32 × MM)) :=
  if 16 ≤ s34_4 then
    some (.inl (s34_3, s34_4, m34_))
  else
    ((if s34_3 = (-9) then
        some 1
      else
        (f_X7_sizeOf s34_4).bind fun x49 =>
        (f_X7_sizeOf s34_3).bind fun x53 =>
        if x53 ≤ x49 then
          some 0
        else
          some 1) : Option (Int32)).bind fun k64_0 =>
    if (s34_4 &&& x24) = 0 then
      if k64_0 = 0 then
        some (.inr (s34_3, s34_4 + 1, m34_))
      else
        (f_X7_become m34_ a1 3 (x24 ||| s34_4)).bind fun r85 =>
        (f_X7_isChosen r85 a1).bind fun r90 =>
        if r90.1 = 0 then
          some (.inr (s34_3, s34_4 + 1, r90.2))
        else
          some (.inr (s34_4, s34_4 + 1, r90.2))
    else
      some (.inr (s34_3, s34_4 + 1, m34_))

def f_X7_claim (mm : MM) (a1 : Int32) : Option (Int32 × MM) :=
  (f_X7_isPerson mm a1).bind fun x2 =>
  if x2 = 0 then
    some ((-1), mm)
  else
    (f_X7_takesPart mm a1).bind fun x12 =>
    if x12 = 0 then
      some ((-3), mm)
    else
      (f_X7_of mm a1 3).bind fun x24 =>
      (itr (fun s : Int32 × Int32 × MM => f_X7_claim_B34 a1 x24 s.1 s.2.1 s.2.2) 2000 ((-9), 0, mm)).bind fun (s34_3, s34_4, m34_) =>
      (f_X7_become m34_ a1 3 x24).bind fun r113 =>
      some (s34_3, r113)

abbrev rm_X7_claim : Room := { frames := 7, cells := 0, slots := 0, locals := 157 }
set_option maxHeartbeats 2000000 in
set_option maxRecDepth 20000 in
theorem c_X7_claim {Z : ZC} {cm : CM} {mm : MM} {lm : LM} {a1 : Int32} {r : Int32 × MM}  (h : f_X7_claim mm a1 = some r) : Ct Z yX7_claim cX7_claim 6 (some .int) rm_X7_claim [.ref (ad Z 32 0), .int a1] cm mm lm (some (.int r.1)) cm r.2 lm := by
  refine Ct_of (own := RX7) [some (.ref (ad Z 32 0)), some (.int a1), none, none, none, none] ⟨by decide, rfl⟩ rfl (Nat.le_of_ble_eq_true rfl) rfl (fun X hX hF => ?_)
  have g : G (fun r : Int32 × MM => Fx Z X (some .int) (some (.int r.1)) cm r.2 lm) (f_X7_claim mm a1) (J Z X 6 cm mm lm 0 [some (.ref (ad Z 32 0)), some (.int a1), none, none, none, none] []) := by
    unfold f_X7_claim
    refine g_aload_n hX dX7_claim_0 rfl rfl ?_
    refine g_iload_n hX dX7_claim_1 rfl rfl ?_
    refine g_callV hX (As := [.int a1]) (fun r => (some (.int r))) (fun _ => cm) (fun _ => mm) (fun _ => lm) (fun r hr => c_X7_isPerson  hr) mi_X7_isPerson ml_7_92 p7_0 e7_0 rfl rfl rfl rfl rfl (Nat.le_of_ble_eq_true rfl) dX7_claim_2 ?_
    intro x2 hx2
    refine g_if_ne hX dX7_claim_5 (fun h5 => ?_) (fun h5 => ?_)
    · refine g_iconst hX dX7_claim_8 ic_m1 ?_
      exact g_iret hX (fun h => h) dX7_claim_9
    · refine g_aload_n hX dX7_claim_10 rfl rfl ?_
      refine g_iload_n hX dX7_claim_11 rfl rfl ?_
      refine g_callV hX (As := [.int a1]) (fun r => (some (.int r))) (fun _ => cm) (fun _ => mm) (fun _ => lm) (fun r hr => c_X7_takesPart  hr) mi_X7_takesPart ml_7_126 p7_0 e7_0 rfl rfl rfl rfl rfl (Nat.le_of_ble_eq_true rfl) dX7_claim_12 ?_
      intro x12 hx12
      refine g_if_ne hX dX7_claim_15 (fun h15 => ?_) (fun h15 => ?_)
      · refine g_bipush hX dX7_claim_18 bp_m3 ?_
        exact g_iret hX (fun h => h) dX7_claim_20
      · refine g_aload_n hX dX7_claim_21 rfl rfl ?_
        refine g_iload_n hX dX7_claim_22 rfl rfl ?_
        refine g_iconst hX dX7_claim_23 ic_3 ?_
        refine g_callV hX (As := [.int a1, .int 3]) (fun r => (some (.int r))) (fun _ => cm) (fun _ => mm) (fun _ => lm) (fun r hr => c_X7_of  hr) mi_X7_of ml_7_103 p7_0 e7_0 rfl rfl rfl rfl rfl (Nat.le_of_ble_eq_true rfl) dX7_claim_24 ?_
        intro x24 hx24
        refine g_istore_n hX dX7_claim_27 rfl (Nat.le_of_ble_eq_true rfl) rfl ?_
        refine g_bipush hX dX7_claim_28 bp_m9 ?_
        refine g_istore_n hX dX7_claim_30 rfl (Nat.le_of_ble_eq_true rfl) rfl ?_
        refine g_iconst hX dX7_claim_31 ic_0 ?_
        refine g_istore hX dX7_claim_32 (Nat.le_of_ble_eq_true rfl) rfl ?_
        refine g_loop (Hd := fun s : Int32 × Int32 × MM => J Z X 6 cm s.2.2 lm 34 [some (.ref (ad Z 32 0)), some (.int a1), some (.int x24), some (.int s.1), some (.int s.2.1), none] []) (Ex := fun s : Int32 × Int32 × MM => J Z X 6 cm s.2.2 lm 109 [some (.ref (ad Z 32 0)), some (.int a1), some (.int x24), some (.int s.1), some (.int s.2.1), none] []) ?_ ?_
        · rintro ⟨s34_3, s34_4, m34_⟩
          show G _ (f_X7_claim_B34 a1 x24 s34_3 s34_4 m34_) (J Z X 6 cm m34_ lm 34 [some (.ref (ad Z 32 0)), some (.int a1), some (.int x24), some (.int s34_3), some (.int s34_4), none] [])
          unfold f_X7_claim_B34
          refine g_iload hX dX7_claim_34 rfl ?_
          refine g_bipush hX dX7_claim_36 bp_16 ?_
          refine g_icmp_ge hX dX7_claim_38 (fun h38 => ?_) (fun h38 => ?_)
          · exact g_wk (lv0 := [some (.ref (ad Z 32 0)), some (.int a1), some (.int x24), some (.int s34_3), some (.int s34_4), none]) ⟨rfl, rfl, rfl, rfl, rfl, trivial⟩ (g_end (fun h => h))
          · refine g_iload_n hX dX7_claim_41 rfl rfl ?_
            refine g_bipush hX dX7_claim_42 bp_m9 ?_
            refine g_bind (fun v : Int32 => J Z X 6 cm m34_ lm 64 [some (.ref (ad Z 32 0)), some (.int a1), some (.int x24), some (.int s34_3), some (.int s34_4), none] [.int v]) ?_ ?_
            · refine g_icmp_eq hX dX7_claim_44 (fun h44 => ?_) (fun h44 => ?_)
              · refine g_iconst hX dX7_claim_59 ic_1 ?_
                refine g_goto hX dX7_claim_60 ?_
                exact g_wk (lv0 := [some (.ref (ad Z 32 0)), some (.int a1), some (.int x24), some (.int s34_3), some (.int s34_4), none]) ⟨rfl, rfl, rfl, rfl, rfl, trivial⟩ (g_end (fun h => h))
              · refine g_iload hX dX7_claim_47 rfl ?_
                refine g_callS hX (As := [.int s34_4]) (fun r => (some (.int r))) (fun _ => cm) (fun _ => m34_) (fun _ => lm) (fun r hr => c_X7_sizeOf  hr) mi_X7_sizeOf ml_7_217 rfl rfl rfl (Nat.le_of_ble_eq_true rfl) dX7_claim_49 ?_
                intro x49 hx49
                refine g_iload_n hX dX7_claim_52 rfl rfl ?_
                refine g_callS hX (As := [.int s34_3]) (fun r => (some (.int r))) (fun _ => cm) (fun _ => m34_) (fun _ => lm) (fun r hr => c_X7_sizeOf  hr) mi_X7_sizeOf ml_7_217 rfl rfl rfl (Nat.le_of_ble_eq_true rfl) dX7_claim_53 ?_
                intro x53 hx53
                refine g_icmp_ge hX dX7_claim_56 (fun h56 => ?_) (fun h56 => ?_)
                · refine g_iconst hX dX7_claim_63 ic_0 ?_
                  exact g_wk (lv0 := [some (.ref (ad Z 32 0)), some (.int a1), some (.int x24), some (.int s34_3), some (.int s34_4), none]) ⟨rfl, rfl, rfl, rfl, rfl, trivial⟩ (g_end (fun h => h))
                · refine g_iconst hX dX7_claim_59 ic_1 ?_
                  refine g_goto hX dX7_claim_60 ?_
                  exact g_wk (lv0 := [some (.ref (ad Z 32 0)), some (.int a1), some (.int x24), some (.int s34_3), some (.int s34_4), none]) ⟨rfl, rfl, rfl, rfl, rfl, trivial⟩ (g_end (fun h => h))
            · intro k64_0
              show G _ _ (J Z X 6 cm m34_ lm 64 [some (.ref (ad Z 32 0)), some (.int a1), some (.int x24), some (.int s34_3), some (.int s34_4), none] [.int k64_0])
              refine g_istore hX dX7_claim_64 (Nat.le_of_ble_eq_true rfl) rfl ?_
              refine g_iload hX dX7_claim_66 rfl ?_
              refine g_iload_n hX dX7_claim_68 rfl rfl ?_
              refine g_iand hX dX7_claim_69 ?_
              refine g_if_ne hX dX7_claim_70 (fun h70 => ?_) (fun h70 => ?_)
              · refine g_iload hX dX7_claim_73 rfl ?_
                refine g_if_eq hX dX7_claim_75 (fun h75 => ?_) (fun h75 => ?_)
                · refine g_iinc hX dX7_claim_103 ic_1 rfl (Nat.le_of_ble_eq_true rfl) rfl ?_
                  refine g_goto hX dX7_claim_106 ?_
                  exact g_wk (lv0 := [some (.ref (ad Z 32 0)), some (.int a1), some (.int x24), some (.int s34_3), some (.int (s34_4 + 1)), none]) ⟨rfl, rfl, rfl, rfl, rfl, trivial⟩ (g_end (fun h => h))
                · refine g_aload_n hX dX7_claim_78 rfl rfl ?_
                  refine g_iload_n hX dX7_claim_79 rfl rfl ?_
                  refine g_iconst hX dX7_claim_80 ic_3 ?_
                  refine g_iload_n hX dX7_claim_81 rfl rfl ?_
                  refine g_iload hX dX7_claim_82 rfl ?_
                  refine g_ior hX dX7_claim_84 ?_
                  refine g_callV hX (As := [.int a1, .int 3, .int (x24 ||| s34_4)]) (fun _ => none) (fun _ => cm) (fun r => r) (fun _ => lm) (fun r hr => c_X7_become  hr) mi_X7_become ml_7_84 p7_0 e7_0 rfl rfl rfl rfl rfl (Nat.le_of_ble_eq_true rfl) dX7_claim_85 ?_
                  intro r85 hr85
                  refine g_aload_n hX dX7_claim_88 rfl rfl ?_
                  refine g_iload_n hX dX7_claim_89 rfl rfl ?_
                  refine g_callV hX (As := [.int a1]) (fun r => (some (.int r.1))) (fun _ => cm) (fun r => r.2) (fun _ => lm) (fun r hr => c_X7_isChosen  hr) mi_X7_isChosen ml_7_229 p7_0 e7_0 rfl rfl rfl rfl rfl (Nat.le_of_ble_eq_true rfl) dX7_claim_90 ?_
                  intro r90 hr90
                  refine g_if_eq hX dX7_claim_93 (fun h93 => ?_) (fun h93 => ?_)
                  · refine g_iload_n hX dX7_claim_101 rfl rfl ?_
                    refine g_istore_n hX dX7_claim_102 rfl (Nat.le_of_ble_eq_true rfl) rfl ?_
                    refine g_iinc hX dX7_claim_103 ic_1 rfl (Nat.le_of_ble_eq_true rfl) rfl ?_
                    refine g_goto hX dX7_claim_106 ?_
                    exact g_wk (lv0 := [some (.ref (ad Z 32 0)), some (.int a1), some (.int x24), some (.int s34_3), some (.int (s34_4 + 1)), none]) ⟨rfl, rfl, rfl, rfl, rfl, trivial⟩ (g_end (fun h => h))
                  · refine g_iload hX dX7_claim_96 rfl ?_
                    refine g_goto hX dX7_claim_98 ?_
                    refine g_istore_n hX dX7_claim_102 rfl (Nat.le_of_ble_eq_true rfl) rfl ?_
                    refine g_iinc hX dX7_claim_103 ic_1 rfl (Nat.le_of_ble_eq_true rfl) rfl ?_
                    refine g_goto hX dX7_claim_106 ?_
                    exact g_wk (lv0 := [some (.ref (ad Z 32 0)), some (.int a1), some (.int x24), some (.int s34_4), some (.int (s34_4 + 1)), none]) ⟨rfl, rfl, rfl, rfl, rfl, trivial⟩ (g_end (fun h => h))
              · refine g_iinc hX dX7_claim_103 ic_1 rfl (Nat.le_of_ble_eq_true rfl) rfl ?_
                refine g_goto hX dX7_claim_106 ?_
                exact g_wk (lv0 := [some (.ref (ad Z 32 0)), some (.int a1), some (.int x24), some (.int s34_3), some (.int (s34_4 + 1)), none]) ⟨rfl, rfl, rfl, rfl, rfl, trivial⟩ (g_end (fun h => h))
        · rintro ⟨s34_3, s34_4, m34_⟩
          show G _ _ (J Z X 6 cm m34_ lm 109 [some (.ref (ad Z 32 0)), some (.int a1), some (.int x24), some (.int s34_3), some (.int s34_4), none] [])
          refine g_aload_n hX dX7_claim_109 rfl rfl ?_
          refine g_iload_n hX dX7_claim_110 rfl rfl ?_
          refine g_iconst hX dX7_claim_111 ic_3 ?_
          refine g_iload_n hX dX7_claim_112 rfl rfl ?_
          refine g_callV hX (As := [.int a1, .int 3, .int x24]) (fun _ => none) (fun _ => cm) (fun r => r) (fun _ => lm) (fun r hr => c_X7_become  hr) mi_X7_become ml_7_84 p7_0 e7_0 rfl rfl rfl rfl rfl (Nat.le_of_ble_eq_true rfl) dX7_claim_113 ?_
          intro r113 hr113
          refine g_iload_n hX dX7_claim_116 rfl rfl ?_
          exact g_iret hX (fun h => h) dX7_claim_117
  exact g r h hF

def f_X7_successor_B72 (x30 : Int32) (r56 : MM) (x60 : Int32) (s72_5 : Int32) : Option (((Int32) ⊕ (Int32 × MM)) ⊕ (Int32)) :=
  (rd 159 (r56 1) 157).bind fun x81 =>
  if x81 ≤ s72_5 then
    some (.inl (.inl s72_5))
  else
    (rd 16 (r56 3) s72_5).bind fun x93 =>
    (f_X7_isIn (x60 &&& (x30 ^^^ (-1))) x93).bind fun x94 =>
    if x94 = 1 then
      (rd 16 (r56 3) s72_5).bind fun x107 =>
      some (.inl (.inr (x107, r56)))
    else
      some (.inr (s72_5 + 1))

def f_X7_successor (mm : MM) (a1 : Int32) : Option (Int32 × MM) :=
  (f_X7_isPerson mm a1).bind fun x2 =>
  if x2 = 0 then
    some ((-1), mm)
  else
    (f_X7_takesPart mm a1).bind fun x12 =>
    if x12 = 0 then
      some ((-3), mm)
    else
      (f_X7_isChosen mm a1).bind fun r20 =>
      if r20.1 = 0 then
        some ((-3), r20.2)
      else
        (f_X7_chosen r20.2).bind fun x30 =>
        (f_X7_of r20.2 a1 4).bind fun x37 =>
        (f_X7_become r20.2 a1 4 4).bind fun r45 =>
        (f_X7_choose r45).bind fun r49 =>
        (f_X7_become r49 a1 4 x37).bind fun r56 =>
        (f_X7_chosen r56).bind fun x60 =>
        (itr (fun s : Int32 => f_X7_successor_B72 x30 r56 x60 s) 2000 0).bind fun ou => match ou with
        | .inr r => some r
        | .inl s72_5 =>
        some ((-9), r56)

abbrev rm_X7_successor : Room := { frames := 7, cells := 0, slots := 0, locals := 157 }
set_option maxHeartbeats 2000000 in
set_option maxRecDepth 20000 in
theorem c_X7_successor {Z : ZC} {cm : CM} {mm : MM} {lm : LM} {a1 : Int32} {r : Int32 × MM}  (h : f_X7_successor mm a1 = some r) : Ct Z yX7_successor cX7_successor 6 (some .int) rm_X7_successor [.ref (ad Z 32 0), .int a1] cm mm lm (some (.int r.1)) cm r.2 lm := by
  refine Ct_of (own := RX7) [some (.ref (ad Z 32 0)), some (.int a1), none, none, none, none] ⟨by decide, rfl⟩ rfl (Nat.le_of_ble_eq_true rfl) rfl (fun X hX hF => ?_)
  have g : G (fun r : Int32 × MM => Fx Z X (some .int) (some (.int r.1)) cm r.2 lm) (f_X7_successor mm a1) (J Z X 6 cm mm lm 0 [some (.ref (ad Z 32 0)), some (.int a1), none, none, none, none] []) := by
    unfold f_X7_successor
    refine g_aload_n hX dX7_successor_0 rfl rfl ?_
    refine g_iload_n hX dX7_successor_1 rfl rfl ?_
    refine g_callV hX (As := [.int a1]) (fun r => (some (.int r))) (fun _ => cm) (fun _ => mm) (fun _ => lm) (fun r hr => c_X7_isPerson  hr) mi_X7_isPerson ml_7_92 p7_0 e7_0 rfl rfl rfl rfl rfl (Nat.le_of_ble_eq_true rfl) dX7_successor_2 ?_
    intro x2 hx2
    refine g_if_ne hX dX7_successor_5 (fun h5 => ?_) (fun h5 => ?_)
    · refine g_iconst hX dX7_successor_8 ic_m1 ?_
      exact g_iret hX (fun h => h) dX7_successor_9
    · refine g_aload_n hX dX7_successor_10 rfl rfl ?_
      refine g_iload_n hX dX7_successor_11 rfl rfl ?_
      refine g_callV hX (As := [.int a1]) (fun r => (some (.int r))) (fun _ => cm) (fun _ => mm) (fun _ => lm) (fun r hr => c_X7_takesPart  hr) mi_X7_takesPart ml_7_126 p7_0 e7_0 rfl rfl rfl rfl rfl (Nat.le_of_ble_eq_true rfl) dX7_successor_12 ?_
      intro x12 hx12
      refine g_if_eq hX dX7_successor_15 (fun h15 => ?_) (fun h15 => ?_)
      · refine g_bipush hX dX7_successor_26 bp_m3 ?_
        exact g_iret hX (fun h => h) dX7_successor_28
      · refine g_aload_n hX dX7_successor_18 rfl rfl ?_
        refine g_iload_n hX dX7_successor_19 rfl rfl ?_
        refine g_callV hX (As := [.int a1]) (fun r => (some (.int r.1))) (fun _ => cm) (fun r => r.2) (fun _ => lm) (fun r hr => c_X7_isChosen  hr) mi_X7_isChosen ml_7_229 p7_0 e7_0 rfl rfl rfl rfl rfl (Nat.le_of_ble_eq_true rfl) dX7_successor_20 ?_
        intro r20 hr20
        refine g_if_ne hX dX7_successor_23 (fun h23 => ?_) (fun h23 => ?_)
        · refine g_bipush hX dX7_successor_26 bp_m3 ?_
          exact g_iret hX (fun h => h) dX7_successor_28
        · refine g_aload_n hX dX7_successor_29 rfl rfl ?_
          refine g_callV hX (As := []) (fun r => (some (.int r))) (fun _ => cm) (fun _ => r20.2) (fun _ => lm) (fun r hr => c_X7_chosen  hr) mi_X7_chosen ml_7_213 p7_0 e7_0 rfl rfl rfl rfl rfl (Nat.le_of_ble_eq_true rfl) dX7_successor_30 ?_
          intro x30 hx30
          refine g_istore_n hX dX7_successor_33 rfl (Nat.le_of_ble_eq_true rfl) rfl ?_
          refine g_aload_n hX dX7_successor_34 rfl rfl ?_
          refine g_iload_n hX dX7_successor_35 rfl rfl ?_
          refine g_iconst hX dX7_successor_36 ic_4 ?_
          refine g_callV hX (As := [.int a1, .int 4]) (fun r => (some (.int r))) (fun _ => cm) (fun _ => r20.2) (fun _ => lm) (fun r hr => c_X7_of  hr) mi_X7_of ml_7_103 p7_0 e7_0 rfl rfl rfl rfl rfl (Nat.le_of_ble_eq_true rfl) dX7_successor_37 ?_
          intro x37 hx37
          refine g_istore_n hX dX7_successor_40 rfl (Nat.le_of_ble_eq_true rfl) rfl ?_
          refine g_aload_n hX dX7_successor_41 rfl rfl ?_
          refine g_iload_n hX dX7_successor_42 rfl rfl ?_
          refine g_iconst hX dX7_successor_43 ic_4 ?_
          refine g_iconst hX dX7_successor_44 ic_4 ?_
          refine g_callV hX (As := [.int a1, .int 4, .int 4]) (fun _ => none) (fun _ => cm) (fun r => r) (fun _ => lm) (fun r hr => c_X7_become  hr) mi_X7_become ml_7_84 p7_0 e7_0 rfl rfl rfl rfl rfl (Nat.le_of_ble_eq_true rfl) dX7_successor_45 ?_
          intro r45 hr45
          refine g_aload_n hX dX7_successor_48 rfl rfl ?_
          refine g_callV hX (As := []) (fun _ => none) (fun _ => cm) (fun r => r) (fun _ => lm) (fun r hr => c_X7_choose  hr) mi_X7_choose ml_7_184 p7_0 e7_0 rfl rfl rfl rfl rfl (Nat.le_of_ble_eq_true rfl) dX7_successor_49 ?_
          intro r49 hr49
          refine g_aload_n hX dX7_successor_52 rfl rfl ?_
          refine g_iload_n hX dX7_successor_53 rfl rfl ?_
          refine g_iconst hX dX7_successor_54 ic_4 ?_
          refine g_iload_n hX dX7_successor_55 rfl rfl ?_
          refine g_callV hX (As := [.int a1, .int 4, .int x37]) (fun _ => none) (fun _ => cm) (fun r => r) (fun _ => lm) (fun r hr => c_X7_become  hr) mi_X7_become ml_7_84 p7_0 e7_0 rfl rfl rfl rfl rfl (Nat.le_of_ble_eq_true rfl) dX7_successor_56 ?_
          intro r56 hr56
          refine g_aload_n hX dX7_successor_59 rfl rfl ?_
          refine g_callV hX (As := []) (fun r => (some (.int r))) (fun _ => cm) (fun _ => r56) (fun _ => lm) (fun r hr => c_X7_chosen  hr) mi_X7_chosen ml_7_213 p7_0 e7_0 rfl rfl rfl rfl rfl (Nat.le_of_ble_eq_true rfl) dX7_successor_60 ?_
          intro x60 hx60
          refine g_iload_n hX dX7_successor_63 rfl rfl ?_
          refine g_iconst hX dX7_successor_64 ic_m1 ?_
          refine g_ixor hX dX7_successor_65 ?_
          refine g_iand hX dX7_successor_66 ?_
          refine g_istore hX dX7_successor_67 (Nat.le_of_ble_eq_true rfl) rfl ?_
          refine g_iconst hX dX7_successor_69 ic_0 ?_
          refine g_istore hX dX7_successor_70 (Nat.le_of_ble_eq_true rfl) rfl ?_
          refine g_loop (Hd := fun s : Int32 => J Z X 6 cm r56 lm 72 [some (.ref (ad Z 32 0)), some (.int a1), some (.int x30), some (.int x37), some (.int (x60 &&& (x30 ^^^ (-1)))), some (.int s)] []) (Ex := fun ou : (Int32) ⊕ (Int32 × MM) => match ou with | .inl e => J Z X 6 cm r56 lm 115 [some (.ref (ad Z 32 0)), some (.int a1), some (.int x30), some (.int x37), some (.int (x60 &&& (x30 ^^^ (-1)))), some (.int e)] [] | .inr r => Fx Z X (some .int) (some (.int r.1)) cm r.2 lm) ?_ ?_
          · intro s72_5
            show G _ (f_X7_successor_B72 x30 r56 x60 s72_5) (J Z X 6 cm r56 lm 72 [some (.ref (ad Z 32 0)), some (.int a1), some (.int x30), some (.int x37), some (.int (x60 &&& (x30 ^^^ (-1)))), some (.int s72_5)] [])
            unfold f_X7_successor_B72
            refine g_iload hX dX7_successor_72 rfl ?_
            refine g_aload_n hX dX7_successor_74 rfl rfl ?_
            refine g_get hX fi_7_7 p7_0 e7_0 rfl dX7_successor_75 ?_
            refine g_sipush hX dX7_successor_78 sp_157 ?_
            refine g_iald hX p7_1 e7_1 dX7_successor_81 ?_
            intro x81 hx81
            refine g_icmp_ge hX dX7_successor_82 (fun h82 => ?_) (fun h82 => ?_)
            · exact g_wk (lv0 := [some (.ref (ad Z 32 0)), some (.int a1), some (.int x30), some (.int x37), some (.int (x60 &&& (x30 ^^^ (-1)))), some (.int s72_5)]) ⟨rfl, rfl, rfl, rfl, rfl, rfl, trivial⟩ (g_end (fun h => h))
            · refine g_iload hX dX7_successor_85 rfl ?_
              refine g_aload_n hX dX7_successor_87 rfl rfl ?_
              refine g_get hX fi_7_16 p7_0 e7_0 rfl dX7_successor_88 ?_
              refine g_iload hX dX7_successor_91 rfl ?_
              refine g_iald hX p7_3 e7_3 dX7_successor_93 ?_
              intro x93 hx93
              refine g_callS hX (As := [.int (x60 &&& (x30 ^^^ (-1))), .int x93]) (fun r => (some (.int r))) (fun _ => cm) (fun _ => r56) (fun _ => lm) (fun r hr => c_X7_isIn  hr) mi_X7_isIn ml_7_120 rfl rfl rfl (Nat.le_of_ble_eq_true rfl) dX7_successor_94 ?_
              intro x94 hx94
              refine g_iconst hX dX7_successor_97 ic_1 ?_
              refine g_icmp_ne hX dX7_successor_98 (fun h98 => ?_) (fun h98 => ?_)
              · refine g_aload_n hX dX7_successor_101 rfl rfl ?_
                refine g_get hX fi_7_16 p7_0 e7_0 rfl dX7_successor_102 ?_
                refine g_iload hX dX7_successor_105 rfl ?_
                refine g_iald hX p7_3 e7_3 dX7_successor_107 ?_
                intro x107 hx107
                exact g_iret hX (fun h => h) dX7_successor_108
              · refine g_iinc hX dX7_successor_109 ic_1 rfl (Nat.le_of_ble_eq_true rfl) rfl ?_
                refine g_goto hX dX7_successor_112 ?_
                exact g_wk (lv0 := [some (.ref (ad Z 32 0)), some (.int a1), some (.int x30), some (.int x37), some (.int (x60 &&& (x30 ^^^ (-1)))), some (.int (s72_5 + 1))]) ⟨rfl, rfl, rfl, rfl, rfl, rfl, trivial⟩ (g_end (fun h => h))
          · rintro (s72_5 | r)
            · show G _ _ (J Z X 6 cm r56 lm 115 [some (.ref (ad Z 32 0)), some (.int a1), some (.int x30), some (.int x37), some (.int (x60 &&& (x30 ^^^ (-1)))), some (.int s72_5)] [])
              refine g_bipush hX dX7_successor_115 bp_m9 ?_
              exact g_iret hX (fun h => h) dX7_successor_117
            · exact g_end (fun h => h)
  exact g r h hF

def f_X7_passed_B33 (a1 : Int32) (r20 : Int32 × MM) (s33_2 : Int32) (s33_3 : Int32) : Option ((Int32 × Int32) ⊕ (Int32 × Int32)) :=
  (rd 159 (r20.2 1) 157).bind fun x41 =>
  if x41 ≤ s33_3 then
    some (.inl (s33_2, s33_3))
  else
    (rd 16 (r20.2 8) s33_3).bind fun x51 =>
    if x51 = (-9) then
      some (.inr (s33_2 ||| 0, s33_3 + 1))
    else
      (f_X7_isAhead r20.2 a1 s33_3).bind fun x60 =>
      if x60 = 0 then
        some (.inr (s33_2 ||| 0, s33_3 + 1))
      else
        some (.inr (s33_2 ||| (1 <<< (s33_3 &&& 31)), s33_3 + 1))

def f_X7_passed (mm : MM) (a1 : Int32) : Option (Int32 × MM) :=
  (f_X7_isPerson mm a1).bind fun x2 =>
  if x2 = 0 then
    some ((-1), mm)
  else
    (f_X7_takesPart mm a1).bind fun x12 =>
    if x12 = 0 then
      some ((-3), mm)
    else
      (f_X7_isChosen mm a1).bind fun r20 =>
      if r20.1 = 0 then
        (itr (fun s : Int32 × Int32 => f_X7_passed_B33 a1 r20 s.1 s.2) 2000 (0, 0)).bind fun (s33_2, s33_3) =>
        some (s33_2, r20.2)
      else
        some ((-3), r20.2)

abbrev rm_X7_passed : Room := { frames := 7, cells := 0, slots := 0, locals := 157 }
set_option maxHeartbeats 2000000 in
set_option maxRecDepth 20000 in
theorem c_X7_passed {Z : ZC} {cm : CM} {mm : MM} {lm : LM} {a1 : Int32} {r : Int32 × MM}  (h : f_X7_passed mm a1 = some r) : Ct Z yX7_passed cX7_passed 4 (some .int) rm_X7_passed [.ref (ad Z 32 0), .int a1] cm mm lm (some (.int r.1)) cm r.2 lm := by
  refine Ct_of (own := RX7) [some (.ref (ad Z 32 0)), some (.int a1), none, none] ⟨by decide, rfl⟩ rfl (Nat.le_of_ble_eq_true rfl) rfl (fun X hX hF => ?_)
  have g : G (fun r : Int32 × MM => Fx Z X (some .int) (some (.int r.1)) cm r.2 lm) (f_X7_passed mm a1) (J Z X 4 cm mm lm 0 [some (.ref (ad Z 32 0)), some (.int a1), none, none] []) := by
    unfold f_X7_passed
    refine g_aload_n hX dX7_passed_0 rfl rfl ?_
    refine g_iload_n hX dX7_passed_1 rfl rfl ?_
    refine g_callV hX (As := [.int a1]) (fun r => (some (.int r))) (fun _ => cm) (fun _ => mm) (fun _ => lm) (fun r hr => c_X7_isPerson  hr) mi_X7_isPerson ml_7_92 p7_0 e7_0 rfl rfl rfl rfl rfl (Nat.le_of_ble_eq_true rfl) dX7_passed_2 ?_
    intro x2 hx2
    refine g_if_ne hX dX7_passed_5 (fun h5 => ?_) (fun h5 => ?_)
    · refine g_iconst hX dX7_passed_8 ic_m1 ?_
      exact g_iret hX (fun h => h) dX7_passed_9
    · refine g_aload_n hX dX7_passed_10 rfl rfl ?_
      refine g_iload_n hX dX7_passed_11 rfl rfl ?_
      refine g_callV hX (As := [.int a1]) (fun r => (some (.int r))) (fun _ => cm) (fun _ => mm) (fun _ => lm) (fun r hr => c_X7_takesPart  hr) mi_X7_takesPart ml_7_126 p7_0 e7_0 rfl rfl rfl rfl rfl (Nat.le_of_ble_eq_true rfl) dX7_passed_12 ?_
      intro x12 hx12
      refine g_if_eq hX dX7_passed_15 (fun h15 => ?_) (fun h15 => ?_)
      · refine g_bipush hX dX7_passed_26 bp_m3 ?_
        exact g_iret hX (fun h => h) dX7_passed_28
      · refine g_aload_n hX dX7_passed_18 rfl rfl ?_
        refine g_iload_n hX dX7_passed_19 rfl rfl ?_
        refine g_callV hX (As := [.int a1]) (fun r => (some (.int r.1))) (fun _ => cm) (fun r => r.2) (fun _ => lm) (fun r hr => c_X7_isChosen  hr) mi_X7_isChosen ml_7_229 p7_0 e7_0 rfl rfl rfl rfl rfl (Nat.le_of_ble_eq_true rfl) dX7_passed_20 ?_
        intro r20 hr20
        refine g_if_eq hX dX7_passed_23 (fun h23 => ?_) (fun h23 => ?_)
        · refine g_iconst hX dX7_passed_29 ic_0 ?_
          refine g_istore_n hX dX7_passed_30 rfl (Nat.le_of_ble_eq_true rfl) rfl ?_
          refine g_iconst hX dX7_passed_31 ic_0 ?_
          refine g_istore_n hX dX7_passed_32 rfl (Nat.le_of_ble_eq_true rfl) rfl ?_
          refine g_loop (Hd := fun s : Int32 × Int32 => J Z X 4 cm r20.2 lm 33 [some (.ref (ad Z 32 0)), some (.int a1), some (.int s.1), some (.int s.2)] []) (Ex := fun s : Int32 × Int32 => J Z X 4 cm r20.2 lm 81 [some (.ref (ad Z 32 0)), some (.int a1), some (.int s.1), some (.int s.2)] []) ?_ ?_
          · rintro ⟨s33_2, s33_3⟩
            show G _ (f_X7_passed_B33 a1 r20 s33_2 s33_3) (J Z X 4 cm r20.2 lm 33 [some (.ref (ad Z 32 0)), some (.int a1), some (.int s33_2), some (.int s33_3)] [])
            unfold f_X7_passed_B33
            refine g_iload_n hX dX7_passed_33 rfl rfl ?_
            refine g_aload_n hX dX7_passed_34 rfl rfl ?_
            refine g_get hX fi_7_7 p7_0 e7_0 rfl dX7_passed_35 ?_
            refine g_sipush hX dX7_passed_38 sp_157 ?_
            refine g_iald hX p7_1 e7_1 dX7_passed_41 ?_
            intro x41 hx41
            refine g_icmp_ge hX dX7_passed_42 (fun h42 => ?_) (fun h42 => ?_)
            · exact g_wk (lv0 := [some (.ref (ad Z 32 0)), some (.int a1), some (.int s33_2), some (.int s33_3)]) ⟨rfl, rfl, rfl, rfl, trivial⟩ (g_end (fun h => h))
            · refine g_iload_n hX dX7_passed_45 rfl rfl ?_
              refine g_aload_n hX dX7_passed_46 rfl rfl ?_
              refine g_get hX fi_7_31 p7_0 e7_0 rfl dX7_passed_47 ?_
              refine g_iload_n hX dX7_passed_50 rfl rfl ?_
              refine g_iald hX p7_8 e7_8 dX7_passed_51 ?_
              intro x51 hx51
              refine g_bipush hX dX7_passed_52 bp_m9 ?_
              refine g_icmp_eq hX dX7_passed_54 (fun h54 => ?_) (fun h54 => ?_)
              · refine g_iconst hX dX7_passed_72 ic_0 ?_
                refine g_ior hX dX7_passed_73 ?_
                refine g_istore_n hX dX7_passed_74 rfl (Nat.le_of_ble_eq_true rfl) rfl ?_
                refine g_iinc hX dX7_passed_75 ic_1 rfl (Nat.le_of_ble_eq_true rfl) rfl ?_
                refine g_goto hX dX7_passed_78 ?_
                exact g_wk (lv0 := [some (.ref (ad Z 32 0)), some (.int a1), some (.int (s33_2 ||| 0)), some (.int (s33_3 + 1))]) ⟨rfl, rfl, rfl, rfl, trivial⟩ (g_end (fun h => h))
              · refine g_aload_n hX dX7_passed_57 rfl rfl ?_
                refine g_iload_n hX dX7_passed_58 rfl rfl ?_
                refine g_iload_n hX dX7_passed_59 rfl rfl ?_
                refine g_callV hX (As := [.int a1, .int s33_3]) (fun r => (some (.int r))) (fun _ => cm) (fun _ => r20.2) (fun _ => lm) (fun r hr => c_X7_isAhead  hr) mi_X7_isAhead ml_7_106 p7_0 e7_0 rfl rfl rfl rfl rfl (Nat.le_of_ble_eq_true rfl) dX7_passed_60 ?_
                intro x60 hx60
                refine g_if_eq hX dX7_passed_63 (fun h63 => ?_) (fun h63 => ?_)
                · refine g_iconst hX dX7_passed_72 ic_0 ?_
                  refine g_ior hX dX7_passed_73 ?_
                  refine g_istore_n hX dX7_passed_74 rfl (Nat.le_of_ble_eq_true rfl) rfl ?_
                  refine g_iinc hX dX7_passed_75 ic_1 rfl (Nat.le_of_ble_eq_true rfl) rfl ?_
                  refine g_goto hX dX7_passed_78 ?_
                  exact g_wk (lv0 := [some (.ref (ad Z 32 0)), some (.int a1), some (.int (s33_2 ||| 0)), some (.int (s33_3 + 1))]) ⟨rfl, rfl, rfl, rfl, trivial⟩ (g_end (fun h => h))
                · refine g_iconst hX dX7_passed_66 ic_1 ?_
                  refine g_iload_n hX dX7_passed_67 rfl rfl ?_
                  refine g_ishl hX dX7_passed_68 ?_
                  refine g_goto hX dX7_passed_69 ?_
                  refine g_ior hX dX7_passed_73 ?_
                  refine g_istore_n hX dX7_passed_74 rfl (Nat.le_of_ble_eq_true rfl) rfl ?_
                  refine g_iinc hX dX7_passed_75 ic_1 rfl (Nat.le_of_ble_eq_true rfl) rfl ?_
                  refine g_goto hX dX7_passed_78 ?_
                  exact g_wk (lv0 := [some (.ref (ad Z 32 0)), some (.int a1), some (.int (s33_2 ||| (1 <<< (s33_3 &&& 31)))), some (.int (s33_3 + 1))]) ⟨rfl, rfl, rfl, rfl, trivial⟩ (g_end (fun h => h))
          · rintro ⟨s33_2, s33_3⟩
            show G _ _ (J Z X 4 cm r20.2 lm 81 [some (.ref (ad Z 32 0)), some (.int a1), some (.int s33_2), some (.int s33_3)] [])
            refine g_iload_n hX dX7_passed_81 rfl rfl ?_
            exact g_iret hX (fun h => h) dX7_passed_82
        · refine g_bipush hX dX7_passed_26 bp_m3 ?_
          exact g_iret hX (fun h => h) dX7_passed_28
  exact g r h hF

def f_X7_whoMisses_B13 (x5 : Int32) (s13_2 : Int32) (s13_3 : Int32) (m13_ : MM) : Option ((Int32 × Int32 × MM) ⊕ (Int32 × Int32 × MM)) :=
  (rd 159 (m13_ 1) 157).bind fun x21 =>
  if x21 ≤ s13_3 then
    some (.inl (s13_2, s13_3, m13_))
  else
    (f_X7_takesPart m13_ s13_3).bind fun x27 =>
    ((if x27 = 0 then
        some (m13_, (-9))
      else
        (f_X7_isIn x5 s13_3).bind fun x35 =>
        if x35 = 0 then
          (f_X7_thresholdOf m13_ s13_3).bind fun r43 =>
          some (r43.2, r43.1)
        else
          some (m13_, (-9))) : Option (MM × Int32)).bind fun (m51, k51_0) =>
    (f_X7_of m51 s13_3 0).bind fun x63 =>
    (wr 16 (m51 18) s13_3 (k51_0 - x63)).bind fun g67 =>
    if k51_0 = (-9) then
      some (.inr (s13_2 ||| 0, s13_3 + 1, u2 m51 18 g67))
    else
      some (.inr (s13_2 ||| (1 <<< (s13_3 &&& 31)), s13_3 + 1, u2 m51 18 g67))

def f_X7_whoMisses (mm : MM) : Option (Int32 × MM) :=
  (f_X7_choose mm).bind fun r1 =>
  (f_X7_chosen r1).bind fun x5 =>
  (itr (fun s : Int32 × Int32 × MM => f_X7_whoMisses_B13 x5 s.1 s.2.1 s.2.2) 2000 (0, 0, r1)).bind fun (s13_2, s13_3, m13_) =>
  some (s13_2, m13_)

abbrev rm_X7_whoMisses : Room := { frames := 8, cells := 0, slots := 0, locals := 181 }
set_option maxHeartbeats 2000000 in
set_option maxRecDepth 20000 in
theorem c_X7_whoMisses {Z : ZC} {cm : CM} {mm : MM} {lm : LM} {r : Int32 × MM}  (h : f_X7_whoMisses mm = some r) : Ct Z yX7_whoMisses cX7_whoMisses 5 (some .int) rm_X7_whoMisses [.ref (ad Z 32 0)] cm mm lm (some (.int r.1)) cm r.2 lm := by
  refine Ct_of (own := RX7) [some (.ref (ad Z 32 0)), none, none, none, none] ⟨by decide, rfl⟩ rfl (Nat.le_of_ble_eq_true rfl) rfl (fun X hX hF => ?_)
  have g : G (fun r : Int32 × MM => Fx Z X (some .int) (some (.int r.1)) cm r.2 lm) (f_X7_whoMisses mm) (J Z X 5 cm mm lm 0 [some (.ref (ad Z 32 0)), none, none, none, none] []) := by
    unfold f_X7_whoMisses
    refine g_aload_n hX dX7_whoMisses_0 rfl rfl ?_
    refine g_callV hX (As := []) (fun _ => none) (fun _ => cm) (fun r => r) (fun _ => lm) (fun r hr => c_X7_choose  hr) mi_X7_choose ml_7_184 p7_0 e7_0 rfl rfl rfl rfl rfl (Nat.le_of_ble_eq_true rfl) dX7_whoMisses_1 ?_
    intro r1 hr1
    refine g_aload_n hX dX7_whoMisses_4 rfl rfl ?_
    refine g_callV hX (As := []) (fun r => (some (.int r))) (fun _ => cm) (fun _ => r1) (fun _ => lm) (fun r hr => c_X7_chosen  hr) mi_X7_chosen ml_7_213 p7_0 e7_0 rfl rfl rfl rfl rfl (Nat.le_of_ble_eq_true rfl) dX7_whoMisses_5 ?_
    intro x5 hx5
    refine g_istore_n hX dX7_whoMisses_8 rfl (Nat.le_of_ble_eq_true rfl) rfl ?_
    refine g_iconst hX dX7_whoMisses_9 ic_0 ?_
    refine g_istore_n hX dX7_whoMisses_10 rfl (Nat.le_of_ble_eq_true rfl) rfl ?_
    refine g_iconst hX dX7_whoMisses_11 ic_0 ?_
    refine g_istore_n hX dX7_whoMisses_12 rfl (Nat.le_of_ble_eq_true rfl) rfl ?_
    refine g_loop (Hd := fun s : Int32 × Int32 × MM => J Z X 5 cm s.2.2 lm 13 [some (.ref (ad Z 32 0)), some (.int x5), some (.int s.1), some (.int s.2.1), none] []) (Ex := fun s : Int32 × Int32 × MM => J Z X 5 cm s.2.2 lm 91 [some (.ref (ad Z 32 0)), some (.int x5), some (.int s.1), some (.int s.2.1), none] []) ?_ ?_
    · rintro ⟨s13_2, s13_3, m13_⟩
      show G _ (f_X7_whoMisses_B13 x5 s13_2 s13_3 m13_) (J Z X 5 cm m13_ lm 13 [some (.ref (ad Z 32 0)), some (.int x5), some (.int s13_2), some (.int s13_3), none] [])
      unfold f_X7_whoMisses_B13
      refine g_iload_n hX dX7_whoMisses_13 rfl rfl ?_
      refine g_aload_n hX dX7_whoMisses_14 rfl rfl ?_
      refine g_get hX fi_7_7 p7_0 e7_0 rfl dX7_whoMisses_15 ?_
      refine g_sipush hX dX7_whoMisses_18 sp_157 ?_
      refine g_iald hX p7_1 e7_1 dX7_whoMisses_21 ?_
      intro x21 hx21
      refine g_icmp_ge hX dX7_whoMisses_22 (fun h22 => ?_) (fun h22 => ?_)
      · exact g_wk (lv0 := [some (.ref (ad Z 32 0)), some (.int x5), some (.int s13_2), some (.int s13_3), none]) ⟨rfl, rfl, rfl, rfl, trivial⟩ (g_end (fun h => h))
      · refine g_aload_n hX dX7_whoMisses_25 rfl rfl ?_
        refine g_iload_n hX dX7_whoMisses_26 rfl rfl ?_
        refine g_callV hX (As := [.int s13_3]) (fun r => (some (.int r))) (fun _ => cm) (fun _ => m13_) (fun _ => lm) (fun r hr => c_X7_takesPart  hr) mi_X7_takesPart ml_7_126 p7_0 e7_0 rfl rfl rfl rfl rfl (Nat.le_of_ble_eq_true rfl) dX7_whoMisses_27 ?_
        intro x27 hx27
        refine g_bind (fun v : MM × Int32 => J Z X 5 cm v.1 lm 51 [some (.ref (ad Z 32 0)), some (.int x5), some (.int s13_2), some (.int s13_3), none] [.int v.2]) ?_ ?_
        · refine g_if_eq hX dX7_whoMisses_30 (fun h30 => ?_) (fun h30 => ?_)
          · refine g_bipush hX dX7_whoMisses_49 bp_m9 ?_
            exact g_wk (lv0 := [some (.ref (ad Z 32 0)), some (.int x5), some (.int s13_2), some (.int s13_3), none]) ⟨rfl, rfl, rfl, rfl, trivial⟩ (g_end (fun h => h))
          · refine g_iload_n hX dX7_whoMisses_33 rfl rfl ?_
            refine g_iload_n hX dX7_whoMisses_34 rfl rfl ?_
            refine g_callS hX (As := [.int x5, .int s13_3]) (fun r => (some (.int r))) (fun _ => cm) (fun _ => m13_) (fun _ => lm) (fun r hr => c_X7_isIn  hr) mi_X7_isIn ml_7_120 rfl rfl rfl (Nat.le_of_ble_eq_true rfl) dX7_whoMisses_35 ?_
            intro x35 hx35
            refine g_if_ne hX dX7_whoMisses_38 (fun h38 => ?_) (fun h38 => ?_)
            · refine g_aload_n hX dX7_whoMisses_41 rfl rfl ?_
              refine g_iload_n hX dX7_whoMisses_42 rfl rfl ?_
              refine g_callV hX (As := [.int s13_3]) (fun r => (some (.int r.1))) (fun _ => cm) (fun r => r.2) (fun _ => lm) (fun r hr => c_X7_thresholdOf  hr) mi_X7_thresholdOf ml_7_232 p7_0 e7_0 rfl rfl rfl rfl rfl (Nat.le_of_ble_eq_true rfl) dX7_whoMisses_43 ?_
              intro r43 hr43
              refine g_goto hX dX7_whoMisses_46 ?_
              exact g_wk (lv0 := [some (.ref (ad Z 32 0)), some (.int x5), some (.int s13_2), some (.int s13_3), none]) ⟨rfl, rfl, rfl, rfl, trivial⟩ (g_end (fun h => h))
            · refine g_bipush hX dX7_whoMisses_49 bp_m9 ?_
              exact g_wk (lv0 := [some (.ref (ad Z 32 0)), some (.int x5), some (.int s13_2), some (.int s13_3), none]) ⟨rfl, rfl, rfl, rfl, trivial⟩ (g_end (fun h => h))
        · rintro ⟨m51, k51_0⟩
          show G _ _ (J Z X 5 cm m51 lm 51 [some (.ref (ad Z 32 0)), some (.int x5), some (.int s13_2), some (.int s13_3), none] [.int k51_0])
          refine g_istore hX dX7_whoMisses_51 (Nat.le_of_ble_eq_true rfl) rfl ?_
          refine g_aload_n hX dX7_whoMisses_53 rfl rfl ?_
          refine g_get hX fi_7_63 p7_0 e7_0 rfl dX7_whoMisses_54 ?_
          refine g_iload_n hX dX7_whoMisses_57 rfl rfl ?_
          refine g_iload hX dX7_whoMisses_58 rfl ?_
          refine g_aload_n hX dX7_whoMisses_60 rfl rfl ?_
          refine g_iload_n hX dX7_whoMisses_61 rfl rfl ?_
          refine g_iconst hX dX7_whoMisses_62 ic_0 ?_
          refine g_callV hX (As := [.int s13_3, .int 0]) (fun r => (some (.int r))) (fun _ => cm) (fun _ => m51) (fun _ => lm) (fun r hr => c_X7_of  hr) mi_X7_of ml_7_103 p7_0 e7_0 rfl rfl rfl rfl rfl (Nat.le_of_ble_eq_true rfl) dX7_whoMisses_63 ?_
          intro x63 hx63
          refine g_isub hX dX7_whoMisses_66 ?_
          refine g_iastM hX p7_18 (s7_18 Z _) dX7_whoMisses_67 ?_
          intro g67 hg67
          refine g_iload_n hX dX7_whoMisses_68 rfl rfl ?_
          refine g_iload hX dX7_whoMisses_69 rfl ?_
          refine g_bipush hX dX7_whoMisses_71 bp_m9 ?_
          refine g_icmp_ne hX dX7_whoMisses_73 (fun h73 => ?_) (fun h73 => ?_)
          · refine g_iconst hX dX7_whoMisses_76 ic_0 ?_
            refine g_goto hX dX7_whoMisses_77 ?_
            refine g_ior hX dX7_whoMisses_83 ?_
            refine g_istore_n hX dX7_whoMisses_84 rfl (Nat.le_of_ble_eq_true rfl) rfl ?_
            refine g_iinc hX dX7_whoMisses_85 ic_1 rfl (Nat.le_of_ble_eq_true rfl) rfl ?_
            refine g_goto hX dX7_whoMisses_88 ?_
            exact g_wk (lv0 := [some (.ref (ad Z 32 0)), some (.int x5), some (.int (s13_2 ||| 0)), some (.int (s13_3 + 1)), none]) ⟨rfl, rfl, rfl, rfl, trivial⟩ (g_end (fun h => h))
          · refine g_iconst hX dX7_whoMisses_80 ic_1 ?_
            refine g_iload_n hX dX7_whoMisses_81 rfl rfl ?_
            refine g_ishl hX dX7_whoMisses_82 ?_
            refine g_ior hX dX7_whoMisses_83 ?_
            refine g_istore_n hX dX7_whoMisses_84 rfl (Nat.le_of_ble_eq_true rfl) rfl ?_
            refine g_iinc hX dX7_whoMisses_85 ic_1 rfl (Nat.le_of_ble_eq_true rfl) rfl ?_
            refine g_goto hX dX7_whoMisses_88 ?_
            exact g_wk (lv0 := [some (.ref (ad Z 32 0)), some (.int x5), some (.int (s13_2 ||| (1 <<< (s13_3 &&& 31)))), some (.int (s13_3 + 1)), none]) ⟨rfl, rfl, rfl, rfl, trivial⟩ (g_end (fun h => h))
    · rintro ⟨s13_2, s13_3, m13_⟩
      show G _ _ (J Z X 5 cm m13_ lm 91 [some (.ref (ad Z 32 0)), some (.int x5), some (.int s13_2), some (.int s13_3), none] [])
      refine g_iload_n hX dX7_whoMisses_91 rfl rfl ?_
      exact g_iret hX (fun h => h) dX7_whoMisses_92
  exact g r h hF

def f_X7_nearest_B38 (r14 : Int32 × MM) (s20_3 : Int32) (s38_4 : Int32) (s38_5 : Int32) : Option ((Int32 × Int32) ⊕ (Int32 × Int32)) :=
  (rd 159 (r14.2 1) 157).bind fun x47 =>
  if x47 ≤ s38_5 then
    some (.inl (s38_4, s38_5))
  else
    (rd 16 (r14.2 18) s38_5).bind fun x57 =>
    (rd 16 (r14.2 18) s20_3).bind fun x63 =>
    ((if x57 < x63 then
        some 1
      else
        (rd 16 (r14.2 18) s38_5).bind fun x73 =>
        (rd 16 (r14.2 18) s20_3).bind fun x79 =>
        if x73 = x79 then
          (f_X7_isAhead r14.2 s38_5 s20_3).bind fun x87 =>
          if x87 = 0 then
            some 0
          else
            some 1
        else
          some 0) : Option (Int32)).bind fun k98_0 =>
    (f_X7_isIn r14.1 s38_5).bind fun x105 =>
    if x105 = 1 then
      if k98_0 = 0 then
        some (.inr (s38_4 + 0, s38_5 + 1))
      else
        some (.inr (s38_4 + 1, s38_5 + 1))
    else
      some (.inr (s38_4 + 0, s38_5 + 1))

def f_X7_nearest_B20 (a1 : Int32) (r14 : Int32 × MM) (s20_3 : Int32) : Option (((Int32) ⊕ (Int32 × MM)) ⊕ (Int32)) :=
  (rd 159 (r14.2 1) 157).bind fun x28 =>
  if x28 ≤ s20_3 then
    some (.inl (.inl s20_3))
  else
    (itr (fun s : Int32 × Int32 => f_X7_nearest_B38 r14 s20_3 s.1 s.2) 2000 (0, 0)).bind fun (s38_4, s38_5) =>
    (f_X7_isIn r14.1 s20_3).bind fun x133 =>
    if x133 = 1 then
      if s38_4 = a1 then
        some (.inl (.inr (s20_3, r14.2)))
      else
        some (.inr (s20_3 + 1))
    else
      some (.inr (s20_3 + 1))

def f_X7_nearest (mm : MM) (a1 : Int32) : Option (Int32 × MM) :=
  (f_X7_within a1 0 15).bind fun x4 =>
  if x4 = 0 then
    some ((-2), mm)
  else
    (f_X7_whoMisses mm).bind fun r14 =>
    (itr (fun s : Int32 => f_X7_nearest_B20 a1 r14 s) 2000 0).bind fun ou => match ou with
    | .inr r => some r
    | .inl s20_3 =>
    some ((-9), r14.2)

abbrev rm_X7_nearest : Room := { frames := 9, cells := 0, slots := 0, locals := 205 }
set_option maxHeartbeats 2000000 in
set_option maxRecDepth 20000 in
theorem c_X7_nearest {Z : ZC} {cm : CM} {mm : MM} {lm : LM} {a1 : Int32} {r : Int32 × MM}  (h : f_X7_nearest mm a1 = some r) : Ct Z yX7_nearest cX7_nearest 7 (some .int) rm_X7_nearest [.ref (ad Z 32 0), .int a1] cm mm lm (some (.int r.1)) cm r.2 lm := by
  refine Ct_of (own := RX7) [some (.ref (ad Z 32 0)), some (.int a1), none, none, none, none, none] ⟨by decide, rfl⟩ rfl (Nat.le_of_ble_eq_true rfl) rfl (fun X hX hF => ?_)
  have g : G (fun r : Int32 × MM => Fx Z X (some .int) (some (.int r.1)) cm r.2 lm) (f_X7_nearest mm a1) (J Z X 7 cm mm lm 0 [some (.ref (ad Z 32 0)), some (.int a1), none, none, none, none, none] []) := by
    unfold f_X7_nearest
    refine g_iload_n hX dX7_nearest_0 rfl rfl ?_
    refine g_iconst hX dX7_nearest_1 ic_0 ?_
    refine g_bipush hX dX7_nearest_2 bp_15 ?_
    refine g_callS hX (As := [.int a1, .int 0, .int 15]) (fun r => (some (.int r))) (fun _ => cm) (fun _ => mm) (fun _ => lm) (fun r hr => c_X7_within  hr) mi_X7_within ml_7_66 rfl rfl rfl (Nat.le_of_ble_eq_true rfl) dX7_nearest_4 ?_
    intro x4 hx4
    refine g_if_ne hX dX7_nearest_7 (fun h7 => ?_) (fun h7 => ?_)
    · refine g_bipush hX dX7_nearest_10 bp_m2 ?_
      exact g_iret hX (fun h => h) dX7_nearest_12
    · refine g_aload_n hX dX7_nearest_13 rfl rfl ?_
      refine g_callV hX (As := []) (fun r => (some (.int r.1))) (fun _ => cm) (fun r => r.2) (fun _ => lm) (fun r hr => c_X7_whoMisses  hr) mi_X7_whoMisses ml_7_235 p7_0 e7_0 rfl rfl rfl rfl rfl (Nat.le_of_ble_eq_true rfl) dX7_nearest_14 ?_
      intro r14 hr14
      refine g_istore_n hX dX7_nearest_17 rfl (Nat.le_of_ble_eq_true rfl) rfl ?_
      refine g_iconst hX dX7_nearest_18 ic_0 ?_
      refine g_istore_n hX dX7_nearest_19 rfl (Nat.le_of_ble_eq_true rfl) rfl ?_
      refine g_loop (Hd := fun s : Int32 => J Z X 7 cm r14.2 lm 20 [some (.ref (ad Z 32 0)), some (.int a1), some (.int r14.1), some (.int s), none, none, none] []) (Ex := fun ou : (Int32) ⊕ (Int32 × MM) => match ou with | .inl e => J Z X 7 cm r14.2 lm 154 [some (.ref (ad Z 32 0)), some (.int a1), some (.int r14.1), some (.int e), none, none, none] [] | .inr r => Fx Z X (some .int) (some (.int r.1)) cm r.2 lm) ?_ ?_
      · intro s20_3
        show G _ (f_X7_nearest_B20 a1 r14 s20_3) (J Z X 7 cm r14.2 lm 20 [some (.ref (ad Z 32 0)), some (.int a1), some (.int r14.1), some (.int s20_3), none, none, none] [])
        unfold f_X7_nearest_B20
        refine g_iload_n hX dX7_nearest_20 rfl rfl ?_
        refine g_aload_n hX dX7_nearest_21 rfl rfl ?_
        refine g_get hX fi_7_7 p7_0 e7_0 rfl dX7_nearest_22 ?_
        refine g_sipush hX dX7_nearest_25 sp_157 ?_
        refine g_iald hX p7_1 e7_1 dX7_nearest_28 ?_
        intro x28 hx28
        refine g_icmp_ge hX dX7_nearest_29 (fun h29 => ?_) (fun h29 => ?_)
        · exact g_wk (lv0 := [some (.ref (ad Z 32 0)), some (.int a1), some (.int r14.1), some (.int s20_3), none, none, none]) ⟨rfl, rfl, rfl, rfl, trivial⟩ (g_end (fun h => h))
        · refine g_iconst hX dX7_nearest_32 ic_0 ?_
          refine g_istore hX dX7_nearest_33 (Nat.le_of_ble_eq_true rfl) rfl ?_
          refine g_iconst hX dX7_nearest_35 ic_0 ?_
          refine g_istore hX dX7_nearest_36 (Nat.le_of_ble_eq_true rfl) rfl ?_
          refine g_loop (Hd := fun s : Int32 × Int32 => J Z X 7 cm r14.2 lm 38 [some (.ref (ad Z 32 0)), some (.int a1), some (.int r14.1), some (.int s20_3), some (.int s.1), some (.int s.2), none] []) (Ex := fun s : Int32 × Int32 => J Z X 7 cm r14.2 lm 131 [some (.ref (ad Z 32 0)), some (.int a1), some (.int r14.1), some (.int s20_3), some (.int s.1), some (.int s.2), none] []) ?_ ?_
          · rintro ⟨s38_4, s38_5⟩
            show G _ (f_X7_nearest_B38 r14 s20_3 s38_4 s38_5) (J Z X 7 cm r14.2 lm 38 [some (.ref (ad Z 32 0)), some (.int a1), some (.int r14.1), some (.int s20_3), some (.int s38_4), some (.int s38_5), none] [])
            unfold f_X7_nearest_B38
            refine g_iload hX dX7_nearest_38 rfl ?_
            refine g_aload_n hX dX7_nearest_40 rfl rfl ?_
            refine g_get hX fi_7_7 p7_0 e7_0 rfl dX7_nearest_41 ?_
            refine g_sipush hX dX7_nearest_44 sp_157 ?_
            refine g_iald hX p7_1 e7_1 dX7_nearest_47 ?_
            intro x47 hx47
            refine g_icmp_ge hX dX7_nearest_48 (fun h48 => ?_) (fun h48 => ?_)
            · exact g_wk (lv0 := [some (.ref (ad Z 32 0)), some (.int a1), some (.int r14.1), some (.int s20_3), some (.int s38_4), some (.int s38_5), none]) ⟨rfl, rfl, rfl, rfl, rfl, rfl, trivial⟩ (g_end (fun h => h))
            · refine g_aload_n hX dX7_nearest_51 rfl rfl ?_
              refine g_get hX fi_7_63 p7_0 e7_0 rfl dX7_nearest_52 ?_
              refine g_iload hX dX7_nearest_55 rfl ?_
              refine g_iald hX p7_18 e7_18 dX7_nearest_57 ?_
              intro x57 hx57
              refine g_aload_n hX dX7_nearest_58 rfl rfl ?_
              refine g_get hX fi_7_63 p7_0 e7_0 rfl dX7_nearest_59 ?_
              refine g_iload_n hX dX7_nearest_62 rfl rfl ?_
              refine g_iald hX p7_18 e7_18 dX7_nearest_63 ?_
              intro x63 hx63
              refine g_bind (fun v : Int32 => J Z X 7 cm r14.2 lm 98 [some (.ref (ad Z 32 0)), some (.int a1), some (.int r14.1), some (.int s20_3), some (.int s38_4), some (.int s38_5), none] [.int v]) ?_ ?_
              · refine g_icmp_lt hX dX7_nearest_64 (fun h64 => ?_) (fun h64 => ?_)
                · refine g_iconst hX dX7_nearest_93 ic_1 ?_
                  refine g_goto hX dX7_nearest_94 ?_
                  exact g_wk (lv0 := [some (.ref (ad Z 32 0)), some (.int a1), some (.int r14.1), some (.int s20_3), some (.int s38_4), some (.int s38_5), none]) ⟨rfl, rfl, rfl, rfl, rfl, rfl, trivial⟩ (g_end (fun h => h))
                · refine g_aload_n hX dX7_nearest_67 rfl rfl ?_
                  refine g_get hX fi_7_63 p7_0 e7_0 rfl dX7_nearest_68 ?_
                  refine g_iload hX dX7_nearest_71 rfl ?_
                  refine g_iald hX p7_18 e7_18 dX7_nearest_73 ?_
                  intro x73 hx73
                  refine g_aload_n hX dX7_nearest_74 rfl rfl ?_
                  refine g_get hX fi_7_63 p7_0 e7_0 rfl dX7_nearest_75 ?_
                  refine g_iload_n hX dX7_nearest_78 rfl rfl ?_
                  refine g_iald hX p7_18 e7_18 dX7_nearest_79 ?_
                  intro x79 hx79
                  refine g_icmp_ne hX dX7_nearest_80 (fun h80 => ?_) (fun h80 => ?_)
                  · refine g_aload_n hX dX7_nearest_83 rfl rfl ?_
                    refine g_iload hX dX7_nearest_84 rfl ?_
                    refine g_iload_n hX dX7_nearest_86 rfl rfl ?_
                    refine g_callV hX (As := [.int s38_5, .int s20_3]) (fun r => (some (.int r))) (fun _ => cm) (fun _ => r14.2) (fun _ => lm) (fun r hr => c_X7_isAhead  hr) mi_X7_isAhead ml_7_106 p7_0 e7_0 rfl rfl rfl rfl rfl (Nat.le_of_ble_eq_true rfl) dX7_nearest_87 ?_
                    intro x87 hx87
                    refine g_if_eq hX dX7_nearest_90 (fun h90 => ?_) (fun h90 => ?_)
                    · refine g_iconst hX dX7_nearest_97 ic_0 ?_
                      exact g_wk (lv0 := [some (.ref (ad Z 32 0)), some (.int a1), some (.int r14.1), some (.int s20_3), some (.int s38_4), some (.int s38_5), none]) ⟨rfl, rfl, rfl, rfl, rfl, rfl, trivial⟩ (g_end (fun h => h))
                    · refine g_iconst hX dX7_nearest_93 ic_1 ?_
                      refine g_goto hX dX7_nearest_94 ?_
                      exact g_wk (lv0 := [some (.ref (ad Z 32 0)), some (.int a1), some (.int r14.1), some (.int s20_3), some (.int s38_4), some (.int s38_5), none]) ⟨rfl, rfl, rfl, rfl, rfl, rfl, trivial⟩ (g_end (fun h => h))
                  · refine g_iconst hX dX7_nearest_97 ic_0 ?_
                    exact g_wk (lv0 := [some (.ref (ad Z 32 0)), some (.int a1), some (.int r14.1), some (.int s20_3), some (.int s38_4), some (.int s38_5), none]) ⟨rfl, rfl, rfl, rfl, rfl, rfl, trivial⟩ (g_end (fun h => h))
              · intro k98_0
                show G _ _ (J Z X 7 cm r14.2 lm 98 [some (.ref (ad Z 32 0)), some (.int a1), some (.int r14.1), some (.int s20_3), some (.int s38_4), some (.int s38_5), none] [.int k98_0])
                refine g_istore hX dX7_nearest_98 (Nat.le_of_ble_eq_true rfl) rfl ?_
                refine g_iload hX dX7_nearest_100 rfl ?_
                refine g_iload_n hX dX7_nearest_102 rfl rfl ?_
                refine g_iload hX dX7_nearest_103 rfl ?_
                refine g_callS hX (As := [.int r14.1, .int s38_5]) (fun r => (some (.int r))) (fun _ => cm) (fun _ => r14.2) (fun _ => lm) (fun r hr => c_X7_isIn  hr) mi_X7_isIn ml_7_120 rfl rfl rfl (Nat.le_of_ble_eq_true rfl) dX7_nearest_105 ?_
                intro x105 hx105
                refine g_iconst hX dX7_nearest_108 ic_1 ?_
                refine g_icmp_ne hX dX7_nearest_109 (fun h109 => ?_) (fun h109 => ?_)
                · refine g_iload hX dX7_nearest_112 rfl ?_
                  refine g_if_eq hX dX7_nearest_114 (fun h114 => ?_) (fun h114 => ?_)
                  · refine g_iconst hX dX7_nearest_121 ic_0 ?_
                    refine g_iadd hX dX7_nearest_122 ?_
                    refine g_istore hX dX7_nearest_123 (Nat.le_of_ble_eq_true rfl) rfl ?_
                    refine g_iinc hX dX7_nearest_125 ic_1 rfl (Nat.le_of_ble_eq_true rfl) rfl ?_
                    refine g_goto hX dX7_nearest_128 ?_
                    exact g_wk (lv0 := [some (.ref (ad Z 32 0)), some (.int a1), some (.int r14.1), some (.int s20_3), some (.int (s38_4 + 0)), some (.int (s38_5 + 1)), none]) ⟨rfl, rfl, rfl, rfl, rfl, rfl, trivial⟩ (g_end (fun h => h))
                  · refine g_iconst hX dX7_nearest_117 ic_1 ?_
                    refine g_goto hX dX7_nearest_118 ?_
                    refine g_iadd hX dX7_nearest_122 ?_
                    refine g_istore hX dX7_nearest_123 (Nat.le_of_ble_eq_true rfl) rfl ?_
                    refine g_iinc hX dX7_nearest_125 ic_1 rfl (Nat.le_of_ble_eq_true rfl) rfl ?_
                    refine g_goto hX dX7_nearest_128 ?_
                    exact g_wk (lv0 := [some (.ref (ad Z 32 0)), some (.int a1), some (.int r14.1), some (.int s20_3), some (.int (s38_4 + 1)), some (.int (s38_5 + 1)), none]) ⟨rfl, rfl, rfl, rfl, rfl, rfl, trivial⟩ (g_end (fun h => h))
                · refine g_iconst hX dX7_nearest_121 ic_0 ?_
                  refine g_iadd hX dX7_nearest_122 ?_
                  refine g_istore hX dX7_nearest_123 (Nat.le_of_ble_eq_true rfl) rfl ?_
                  refine g_iinc hX dX7_nearest_125 ic_1 rfl (Nat.le_of_ble_eq_true rfl) rfl ?_
                  refine g_goto hX dX7_nearest_128 ?_
                  exact g_wk (lv0 := [some (.ref (ad Z 32 0)), some (.int a1), some (.int r14.1), some (.int s20_3), some (.int (s38_4 + 0)), some (.int (s38_5 + 1)), none]) ⟨rfl, rfl, rfl, rfl, rfl, rfl, trivial⟩ (g_end (fun h => h))
          · rintro ⟨s38_4, s38_5⟩
            show G _ _ (J Z X 7 cm r14.2 lm 131 [some (.ref (ad Z 32 0)), some (.int a1), some (.int r14.1), some (.int s20_3), some (.int s38_4), some (.int s38_5), none] [])
            refine g_iload_n hX dX7_nearest_131 rfl rfl ?_
            refine g_iload_n hX dX7_nearest_132 rfl rfl ?_
            refine g_callS hX (As := [.int r14.1, .int s20_3]) (fun r => (some (.int r))) (fun _ => cm) (fun _ => r14.2) (fun _ => lm) (fun r hr => c_X7_isIn  hr) mi_X7_isIn ml_7_120 rfl rfl rfl (Nat.le_of_ble_eq_true rfl) dX7_nearest_133 ?_
            intro x133 hx133
            refine g_iconst hX dX7_nearest_136 ic_1 ?_
            refine g_icmp_ne hX dX7_nearest_137 (fun h137 => ?_) (fun h137 => ?_)
            · refine g_iload hX dX7_nearest_140 rfl ?_
              refine g_iload_n hX dX7_nearest_142 rfl rfl ?_
              refine g_icmp_ne hX dX7_nearest_143 (fun h143 => ?_) (fun h143 => ?_)
              · refine g_iload_n hX dX7_nearest_146 rfl rfl ?_
                exact g_iret hX (fun h => h) dX7_nearest_147
              · refine g_iinc hX dX7_nearest_148 ic_1 rfl (Nat.le_of_ble_eq_true rfl) rfl ?_
                refine g_goto hX dX7_nearest_151 ?_
                exact g_wk (lv0 := [some (.ref (ad Z 32 0)), some (.int a1), some (.int r14.1), some (.int (s20_3 + 1)), none, none, none]) ⟨rfl, rfl, rfl, rfl, trivial⟩ (g_end (fun h => h))
            · refine g_iinc hX dX7_nearest_148 ic_1 rfl (Nat.le_of_ble_eq_true rfl) rfl ?_
              refine g_goto hX dX7_nearest_151 ?_
              exact g_wk (lv0 := [some (.ref (ad Z 32 0)), some (.int a1), some (.int r14.1), some (.int (s20_3 + 1)), none, none, none]) ⟨rfl, rfl, rfl, rfl, trivial⟩ (g_end (fun h => h))
      · rintro (s20_3 | r)
        · show G _ _ (J Z X 7 cm r14.2 lm 154 [some (.ref (ad Z 32 0)), some (.int a1), some (.int r14.1), some (.int s20_3), none, none, none] [])
          refine g_bipush hX dX7_nearest_154 bp_m9 ?_
          exact g_iret hX (fun h => h) dX7_nearest_156
        · exact g_end (fun h => h)
  exact g r h hF

def f_X7_isAsGood (mm : MM) (a1 a2 a3 : Int32) : Option (Int32 × MM) :=
  (f_X7_fillOf mm a3).bind fun r2 =>
  (f_X7_addOther r2.2 a2 (-1)).bind fun r10 =>
  (f_X7_addOther r10 a1 1).bind fun r16 =>
  (f_X7_leastCut r16 (-9)).bind fun x22 =>
  if x22 < r2.1 then
    some (0, r16)
  else
    some (1, r16)

abbrev rm_X7_isAsGood : Room := { frames := 3, cells := 0, slots := 0, locals := 67 }
set_option maxHeartbeats 2000000 in
set_option maxRecDepth 20000 in
theorem c_X7_isAsGood {Z : ZC} {cm : CM} {mm : MM} {lm : LM} {a1 a2 a3 : Int32} {r : Int32 × MM}  (h : f_X7_isAsGood mm a1 a2 a3 = some r) : Ct Z yX7_isAsGood cX7_isAsGood 5 (some .boolean) rm_X7_isAsGood [.ref (ad Z 32 0), .int a1, .int a2, .int a3] cm mm lm (some (.int r.1)) cm r.2 lm := by
  refine Ct_of (own := RX7) [some (.ref (ad Z 32 0)), some (.int a1), some (.int a2), some (.int a3), none] ⟨by decide, rfl⟩ rfl (Nat.le_of_ble_eq_true rfl) rfl (fun X hX hF => ?_)
  have g : G (fun r : Int32 × MM => Fx Z X (some .boolean) (some (.int r.1)) cm r.2 lm) (f_X7_isAsGood mm a1 a2 a3) (J Z X 5 cm mm lm 0 [some (.ref (ad Z 32 0)), some (.int a1), some (.int a2), some (.int a3), none] []) := by
    unfold f_X7_isAsGood
    refine g_aload_n hX dX7_isAsGood_0 rfl rfl ?_
    refine g_iload_n hX dX7_isAsGood_1 rfl rfl ?_
    refine g_callV hX (As := [.int a3]) (fun r => (some (.int r.1))) (fun _ => cm) (fun r => r.2) (fun _ => lm) (fun r hr => c_X7_fillOf  hr) mi_X7_fillOf ml_7_199 p7_0 e7_0 rfl rfl rfl rfl rfl (Nat.le_of_ble_eq_true rfl) dX7_isAsGood_2 ?_
    intro r2 hr2
    refine g_istore hX dX7_isAsGood_5 (Nat.le_of_ble_eq_true rfl) rfl ?_
    refine g_aload_n hX dX7_isAsGood_7 rfl rfl ?_
    refine g_iload_n hX dX7_isAsGood_8 rfl rfl ?_
    refine g_iconst hX dX7_isAsGood_9 ic_m1 ?_
    refine g_callV hX (As := [.int a2, .int (-1)]) (fun _ => none) (fun _ => cm) (fun r => r) (fun _ => lm) (fun r hr => c_X7_addOther  hr) mi_X7_addOther ml_7_147 p7_0 e7_0 rfl rfl rfl rfl rfl (Nat.le_of_ble_eq_true rfl) dX7_isAsGood_10 ?_
    intro r10 hr10
    refine g_aload_n hX dX7_isAsGood_13 rfl rfl ?_
    refine g_iload_n hX dX7_isAsGood_14 rfl rfl ?_
    refine g_iconst hX dX7_isAsGood_15 ic_1 ?_
    refine g_callV hX (As := [.int a1, .int 1]) (fun _ => none) (fun _ => cm) (fun r => r) (fun _ => lm) (fun r hr => c_X7_addOther  hr) mi_X7_addOther ml_7_147 p7_0 e7_0 rfl rfl rfl rfl rfl (Nat.le_of_ble_eq_true rfl) dX7_isAsGood_16 ?_
    intro r16 hr16
    refine g_aload_n hX dX7_isAsGood_19 rfl rfl ?_
    refine g_bipush hX dX7_isAsGood_20 bp_m9 ?_
    refine g_callV hX (As := [.int (-9)]) (fun r => (some (.int r))) (fun _ => cm) (fun _ => r16) (fun _ => lm) (fun r hr => c_X7_leastCut  hr) mi_X7_leastCut ml_7_144 p7_0 e7_0 rfl rfl rfl rfl rfl (Nat.le_of_ble_eq_true rfl) dX7_isAsGood_22 ?_
    intro x22 hx22
    refine g_iload hX dX7_isAsGood_25 rfl ?_
    refine g_icmp_lt hX dX7_isAsGood_27 (fun h27 => ?_) (fun h27 => ?_)
    · refine g_iconst hX dX7_isAsGood_34 ic_0 ?_
      exact g_zret hX (by decide) (fun h => h) dX7_isAsGood_35
    · refine g_iconst hX dX7_isAsGood_30 ic_1 ?_
      refine g_goto hX dX7_isAsGood_31 ?_
      exact g_zret hX (by decide) (fun h => h) dX7_isAsGood_35
  exact g r h hF

def f_X7_envy_B22 (s8_2 : Int32) (s22_1 : Int32) (s22_3 : Int32) (m22_ : MM) : Option ((Int32 × Int32 × MM) ⊕ (Int32 × Int32 × MM)) :=
  (rd 159 (m22_ 1) 157).bind fun x30 =>
  if x30 ≤ s22_3 then
    some (.inl (s22_1, s22_3, m22_))
  else
    (f_X7_takesPart m22_ s8_2).bind fun x36 =>
    ((if x36 = 0 then
        some 0
      else
        (rd 16 (m22_ 8) s8_2).bind fun x47 =>
        if x47 = (-9) then
          (rd 16 (m22_ 8) s22_3).bind fun x58 =>
          if x58 = (-9) then
            some 0
          else
            (rd 16 (m22_ 10) s22_3).bind fun x69 =>
            if x69 = 0 then
              some 1
            else
              some 0
        else
          some 0) : Option (Int32)).bind fun k78_0 =>
    ((if k78_0 = 0 then
        some 0
      else
        (rd 16 (m22_ 8) s22_3).bind fun x92 =>
        (f_X7_isCandidate m22_ s8_2 x92).bind fun x93 =>
        if x93 = 0 then
          some 0
        else
          (f_X7_isAhead m22_ s8_2 s22_3).bind fun x102 =>
          if x102 = 0 then
            some 0
          else
            some 1) : Option (Int32)).bind fun k113_0 =>
    if k113_0 = 0 then
      some (.inr (s22_1 + 0, s22_3 + 1, m22_))
    else
      (rd 16 (m22_ 8) s22_3).bind fun x129 =>
      (f_X7_isAsGood m22_ s8_2 s22_3 x129).bind fun r130 =>
      if r130.1 = 0 then
        some (.inr (s22_1 + 0, s22_3 + 1, r130.2))
      else
        some (.inr (s22_1 + 1, s22_3 + 1, r130.2))

def f_X7_envy_B8 (s8_1 : Int32) (s8_2 : Int32) (m8_ : MM) : Option ((Int32 × Int32 × MM) ⊕ (Int32 × Int32 × MM)) :=
  (rd 159 (m8_ 1) 157).bind fun x16 =>
  if x16 ≤ s8_2 then
    some (.inl (s8_1, s8_2, m8_))
  else
    (itr (fun s : Int32 × Int32 × MM => f_X7_envy_B22 s8_2 s.1 s.2.1 s.2.2) 2000 (s8_1, 0, m8_)).bind fun (s22_1, s22_3, m22_) =>
    some (.inr (s22_1, s8_2 + 1, m22_))

def f_X7_envy (mm : MM) : Option (Int32 × MM) :=
  (f_X7_choose mm).bind fun r1 =>
  (itr (fun s : Int32 × Int32 × MM => f_X7_envy_B8 s.1 s.2.1 s.2.2) 2000 (0, 0, r1)).bind fun (s8_1, s8_2, m8_) =>
  some (s8_1, m8_)

abbrev rm_X7_envy : Room := { frames := 6, cells := 0, slots := 0, locals := 136 }
set_option maxHeartbeats 2000000 in
set_option maxRecDepth 20000 in
theorem c_X7_envy {Z : ZC} {cm : CM} {mm : MM} {lm : LM} {r : Int32 × MM}  (h : f_X7_envy mm = some r) : Ct Z yX7_envy cX7_envy 6 (some .int) rm_X7_envy [.ref (ad Z 32 0)] cm mm lm (some (.int r.1)) cm r.2 lm := by
  refine Ct_of (own := RX7) [some (.ref (ad Z 32 0)), none, none, none, none, none] ⟨by decide, rfl⟩ rfl (Nat.le_of_ble_eq_true rfl) rfl (fun X hX hF => ?_)
  have g : G (fun r : Int32 × MM => Fx Z X (some .int) (some (.int r.1)) cm r.2 lm) (f_X7_envy mm) (J Z X 6 cm mm lm 0 [some (.ref (ad Z 32 0)), none, none, none, none, none] []) := by
    unfold f_X7_envy
    refine g_aload_n hX dX7_envy_0 rfl rfl ?_
    refine g_callV hX (As := []) (fun _ => none) (fun _ => cm) (fun r => r) (fun _ => lm) (fun r hr => c_X7_choose  hr) mi_X7_choose ml_7_184 p7_0 e7_0 rfl rfl rfl rfl rfl (Nat.le_of_ble_eq_true rfl) dX7_envy_1 ?_
    intro r1 hr1
    refine g_iconst hX dX7_envy_4 ic_0 ?_
    refine g_istore_n hX dX7_envy_5 rfl (Nat.le_of_ble_eq_true rfl) rfl ?_
    refine g_iconst hX dX7_envy_6 ic_0 ?_
    refine g_istore_n hX dX7_envy_7 rfl (Nat.le_of_ble_eq_true rfl) rfl ?_
    refine g_loop (Hd := fun s : Int32 × Int32 × MM => J Z X 6 cm s.2.2 lm 8 [some (.ref (ad Z 32 0)), some (.int s.1), some (.int s.2.1), none, none, none] []) (Ex := fun s : Int32 × Int32 × MM => J Z X 6 cm s.2.2 lm 155 [some (.ref (ad Z 32 0)), some (.int s.1), some (.int s.2.1), none, none, none] []) ?_ ?_
    · rintro ⟨s8_1, s8_2, m8_⟩
      show G _ (f_X7_envy_B8 s8_1 s8_2 m8_) (J Z X 6 cm m8_ lm 8 [some (.ref (ad Z 32 0)), some (.int s8_1), some (.int s8_2), none, none, none] [])
      unfold f_X7_envy_B8
      refine g_iload_n hX dX7_envy_8 rfl rfl ?_
      refine g_aload_n hX dX7_envy_9 rfl rfl ?_
      refine g_get hX fi_7_7 p7_0 e7_0 rfl dX7_envy_10 ?_
      refine g_sipush hX dX7_envy_13 sp_157 ?_
      refine g_iald hX p7_1 e7_1 dX7_envy_16 ?_
      intro x16 hx16
      refine g_icmp_ge hX dX7_envy_17 (fun h17 => ?_) (fun h17 => ?_)
      · exact g_wk (lv0 := [some (.ref (ad Z 32 0)), some (.int s8_1), some (.int s8_2), none, none, none]) ⟨rfl, rfl, rfl, trivial⟩ (g_end (fun h => h))
      · refine g_iconst hX dX7_envy_20 ic_0 ?_
        refine g_istore_n hX dX7_envy_21 rfl (Nat.le_of_ble_eq_true rfl) rfl ?_
        refine g_loop (Hd := fun s : Int32 × Int32 × MM => J Z X 6 cm s.2.2 lm 22 [some (.ref (ad Z 32 0)), some (.int s.1), some (.int s8_2), some (.int s.2.1), none, none] []) (Ex := fun s : Int32 × Int32 × MM => J Z X 6 cm s.2.2 lm 149 [some (.ref (ad Z 32 0)), some (.int s.1), some (.int s8_2), some (.int s.2.1), none, none] []) ?_ ?_
        · rintro ⟨s22_1, s22_3, m22_⟩
          show G _ (f_X7_envy_B22 s8_2 s22_1 s22_3 m22_) (J Z X 6 cm m22_ lm 22 [some (.ref (ad Z 32 0)), some (.int s22_1), some (.int s8_2), some (.int s22_3), none, none] [])
          unfold f_X7_envy_B22
          refine g_iload_n hX dX7_envy_22 rfl rfl ?_
          refine g_aload_n hX dX7_envy_23 rfl rfl ?_
          refine g_get hX fi_7_7 p7_0 e7_0 rfl dX7_envy_24 ?_
          refine g_sipush hX dX7_envy_27 sp_157 ?_
          refine g_iald hX p7_1 e7_1 dX7_envy_30 ?_
          intro x30 hx30
          refine g_icmp_ge hX dX7_envy_31 (fun h31 => ?_) (fun h31 => ?_)
          · exact g_wk (lv0 := [some (.ref (ad Z 32 0)), some (.int s22_1), some (.int s8_2), some (.int s22_3), none, none]) ⟨rfl, rfl, rfl, rfl, trivial⟩ (g_end (fun h => h))
          · refine g_aload_n hX dX7_envy_34 rfl rfl ?_
            refine g_iload_n hX dX7_envy_35 rfl rfl ?_
            refine g_callV hX (As := [.int s8_2]) (fun r => (some (.int r))) (fun _ => cm) (fun _ => m22_) (fun _ => lm) (fun r hr => c_X7_takesPart  hr) mi_X7_takesPart ml_7_126 p7_0 e7_0 rfl rfl rfl rfl rfl (Nat.le_of_ble_eq_true rfl) dX7_envy_36 ?_
            intro x36 hx36
            refine g_bind (fun v : Int32 => J Z X 6 cm m22_ lm 78 [some (.ref (ad Z 32 0)), some (.int s22_1), some (.int s8_2), some (.int s22_3), none, none] [.int v]) ?_ ?_
            · refine g_if_eq hX dX7_envy_39 (fun h39 => ?_) (fun h39 => ?_)
              · refine g_iconst hX dX7_envy_77 ic_0 ?_
                exact g_wk (lv0 := [some (.ref (ad Z 32 0)), some (.int s22_1), some (.int s8_2), some (.int s22_3), none, none]) ⟨rfl, rfl, rfl, rfl, trivial⟩ (g_end (fun h => h))
              · refine g_aload_n hX dX7_envy_42 rfl rfl ?_
                refine g_get hX fi_7_31 p7_0 e7_0 rfl dX7_envy_43 ?_
                refine g_iload_n hX dX7_envy_46 rfl rfl ?_
                refine g_iald hX p7_8 e7_8 dX7_envy_47 ?_
                intro x47 hx47
                refine g_bipush hX dX7_envy_48 bp_m9 ?_
                refine g_icmp_ne hX dX7_envy_50 (fun h50 => ?_) (fun h50 => ?_)
                · refine g_aload_n hX dX7_envy_53 rfl rfl ?_
                  refine g_get hX fi_7_31 p7_0 e7_0 rfl dX7_envy_54 ?_
                  refine g_iload_n hX dX7_envy_57 rfl rfl ?_
                  refine g_iald hX p7_8 e7_8 dX7_envy_58 ?_
                  intro x58 hx58
                  refine g_bipush hX dX7_envy_59 bp_m9 ?_
                  refine g_icmp_eq hX dX7_envy_61 (fun h61 => ?_) (fun h61 => ?_)
                  · refine g_iconst hX dX7_envy_77 ic_0 ?_
                    exact g_wk (lv0 := [some (.ref (ad Z 32 0)), some (.int s22_1), some (.int s8_2), some (.int s22_3), none, none]) ⟨rfl, rfl, rfl, rfl, trivial⟩ (g_end (fun h => h))
                  · refine g_aload_n hX dX7_envy_64 rfl rfl ?_
                    refine g_get hX fi_7_37 p7_0 e7_0 rfl dX7_envy_65 ?_
                    refine g_iload_n hX dX7_envy_68 rfl rfl ?_
                    refine g_zald hX p7_10 e7_10 dX7_envy_69 ?_
                    intro x69 hx69
                    refine g_if_ne hX dX7_envy_70 (fun h70 => ?_) (fun h70 => ?_)
                    · refine g_iconst hX dX7_envy_73 ic_1 ?_
                      refine g_goto hX dX7_envy_74 ?_
                      exact g_wk (lv0 := [some (.ref (ad Z 32 0)), some (.int s22_1), some (.int s8_2), some (.int s22_3), none, none]) ⟨rfl, rfl, rfl, rfl, trivial⟩ (g_end (fun h => h))
                    · refine g_iconst hX dX7_envy_77 ic_0 ?_
                      exact g_wk (lv0 := [some (.ref (ad Z 32 0)), some (.int s22_1), some (.int s8_2), some (.int s22_3), none, none]) ⟨rfl, rfl, rfl, rfl, trivial⟩ (g_end (fun h => h))
                · refine g_iconst hX dX7_envy_77 ic_0 ?_
                  exact g_wk (lv0 := [some (.ref (ad Z 32 0)), some (.int s22_1), some (.int s8_2), some (.int s22_3), none, none]) ⟨rfl, rfl, rfl, rfl, trivial⟩ (g_end (fun h => h))
            · intro k78_0
              show G _ _ (J Z X 6 cm m22_ lm 78 [some (.ref (ad Z 32 0)), some (.int s22_1), some (.int s8_2), some (.int s22_3), none, none] [.int k78_0])
              refine g_istore hX dX7_envy_78 (Nat.le_of_ble_eq_true rfl) rfl ?_
              refine g_iload hX dX7_envy_80 rfl ?_
              refine g_bind (fun v : Int32 => J Z X 6 cm m22_ lm 113 [some (.ref (ad Z 32 0)), some (.int s22_1), some (.int s8_2), some (.int s22_3), some (.int k78_0), none] [.int v]) ?_ ?_
              · refine g_if_eq hX dX7_envy_82 (fun h82 => ?_) (fun h82 => ?_)
                · refine g_iconst hX dX7_envy_112 ic_0 ?_
                  exact g_wk (lv0 := [some (.ref (ad Z 32 0)), some (.int s22_1), some (.int s8_2), some (.int s22_3), some (.int k78_0), none]) ⟨rfl, rfl, rfl, rfl, rfl, trivial⟩ (g_end (fun h => h))
                · refine g_aload_n hX dX7_envy_85 rfl rfl ?_
                  refine g_iload_n hX dX7_envy_86 rfl rfl ?_
                  refine g_aload_n hX dX7_envy_87 rfl rfl ?_
                  refine g_get hX fi_7_31 p7_0 e7_0 rfl dX7_envy_88 ?_
                  refine g_iload_n hX dX7_envy_91 rfl rfl ?_
                  refine g_iald hX p7_8 e7_8 dX7_envy_92 ?_
                  intro x92 hx92
                  refine g_callV hX (As := [.int s8_2, .int x92]) (fun r => (some (.int r))) (fun _ => cm) (fun _ => m22_) (fun _ => lm) (fun r hr => c_X7_isCandidate  hr) mi_X7_isCandidate ml_7_129 p7_0 e7_0 rfl rfl rfl rfl rfl (Nat.le_of_ble_eq_true rfl) dX7_envy_93 ?_
                  intro x93 hx93
                  refine g_if_eq hX dX7_envy_96 (fun h96 => ?_) (fun h96 => ?_)
                  · refine g_iconst hX dX7_envy_112 ic_0 ?_
                    exact g_wk (lv0 := [some (.ref (ad Z 32 0)), some (.int s22_1), some (.int s8_2), some (.int s22_3), some (.int k78_0), none]) ⟨rfl, rfl, rfl, rfl, rfl, trivial⟩ (g_end (fun h => h))
                  · refine g_aload_n hX dX7_envy_99 rfl rfl ?_
                    refine g_iload_n hX dX7_envy_100 rfl rfl ?_
                    refine g_iload_n hX dX7_envy_101 rfl rfl ?_
                    refine g_callV hX (As := [.int s8_2, .int s22_3]) (fun r => (some (.int r))) (fun _ => cm) (fun _ => m22_) (fun _ => lm) (fun r hr => c_X7_isAhead  hr) mi_X7_isAhead ml_7_106 p7_0 e7_0 rfl rfl rfl rfl rfl (Nat.le_of_ble_eq_true rfl) dX7_envy_102 ?_
                    intro x102 hx102
                    refine g_if_eq hX dX7_envy_105 (fun h105 => ?_) (fun h105 => ?_)
                    · refine g_iconst hX dX7_envy_112 ic_0 ?_
                      exact g_wk (lv0 := [some (.ref (ad Z 32 0)), some (.int s22_1), some (.int s8_2), some (.int s22_3), some (.int k78_0), none]) ⟨rfl, rfl, rfl, rfl, rfl, trivial⟩ (g_end (fun h => h))
                    · refine g_iconst hX dX7_envy_108 ic_1 ?_
                      refine g_goto hX dX7_envy_109 ?_
                      exact g_wk (lv0 := [some (.ref (ad Z 32 0)), some (.int s22_1), some (.int s8_2), some (.int s22_3), some (.int k78_0), none]) ⟨rfl, rfl, rfl, rfl, rfl, trivial⟩ (g_end (fun h => h))
              · intro k113_0
                show G _ _ (J Z X 6 cm m22_ lm 113 [some (.ref (ad Z 32 0)), some (.int s22_1), some (.int s8_2), some (.int s22_3), some (.int k78_0), none] [.int k113_0])
                refine g_istore hX dX7_envy_113 (Nat.le_of_ble_eq_true rfl) rfl ?_
                refine g_iload_n hX dX7_envy_115 rfl rfl ?_
                refine g_iload hX dX7_envy_116 rfl ?_
                refine g_if_eq hX dX7_envy_118 (fun h118 => ?_) (fun h118 => ?_)
                · refine g_iconst hX dX7_envy_140 ic_0 ?_
                  refine g_iadd hX dX7_envy_141 ?_
                  refine g_istore_n hX dX7_envy_142 rfl (Nat.le_of_ble_eq_true rfl) rfl ?_
                  refine g_iinc hX dX7_envy_143 ic_1 rfl (Nat.le_of_ble_eq_true rfl) rfl ?_
                  refine g_goto hX dX7_envy_146 ?_
                  exact g_wk (lv0 := [some (.ref (ad Z 32 0)), some (.int (s22_1 + 0)), some (.int s8_2), some (.int (s22_3 + 1)), none, none]) ⟨rfl, rfl, rfl, rfl, trivial⟩ (g_end (fun h => h))
                · refine g_aload_n hX dX7_envy_121 rfl rfl ?_
                  refine g_iload_n hX dX7_envy_122 rfl rfl ?_
                  refine g_iload_n hX dX7_envy_123 rfl rfl ?_
                  refine g_aload_n hX dX7_envy_124 rfl rfl ?_
                  refine g_get hX fi_7_31 p7_0 e7_0 rfl dX7_envy_125 ?_
                  refine g_iload_n hX dX7_envy_128 rfl rfl ?_
                  refine g_iald hX p7_8 e7_8 dX7_envy_129 ?_
                  intro x129 hx129
                  refine g_callV hX (As := [.int s8_2, .int s22_3, .int x129]) (fun r => (some (.int r.1))) (fun _ => cm) (fun r => r.2) (fun _ => lm) (fun r hr => c_X7_isAsGood  hr) mi_X7_isAsGood ml_7_238 p7_0 e7_0 rfl rfl rfl rfl rfl (Nat.le_of_ble_eq_true rfl) dX7_envy_130 ?_
                  intro r130 hr130
                  refine g_if_eq hX dX7_envy_133 (fun h133 => ?_) (fun h133 => ?_)
                  · refine g_iconst hX dX7_envy_140 ic_0 ?_
                    refine g_iadd hX dX7_envy_141 ?_
                    refine g_istore_n hX dX7_envy_142 rfl (Nat.le_of_ble_eq_true rfl) rfl ?_
                    refine g_iinc hX dX7_envy_143 ic_1 rfl (Nat.le_of_ble_eq_true rfl) rfl ?_
                    refine g_goto hX dX7_envy_146 ?_
                    exact g_wk (lv0 := [some (.ref (ad Z 32 0)), some (.int (s22_1 + 0)), some (.int s8_2), some (.int (s22_3 + 1)), none, none]) ⟨rfl, rfl, rfl, rfl, trivial⟩ (g_end (fun h => h))
                  · refine g_iconst hX dX7_envy_136 ic_1 ?_
                    refine g_goto hX dX7_envy_137 ?_
                    refine g_iadd hX dX7_envy_141 ?_
                    refine g_istore_n hX dX7_envy_142 rfl (Nat.le_of_ble_eq_true rfl) rfl ?_
                    refine g_iinc hX dX7_envy_143 ic_1 rfl (Nat.le_of_ble_eq_true rfl) rfl ?_
                    refine g_goto hX dX7_envy_146 ?_
                    exact g_wk (lv0 := [some (.ref (ad Z 32 0)), some (.int (s22_1 + 1)), some (.int s8_2), some (.int (s22_3 + 1)), none, none]) ⟨rfl, rfl, rfl, rfl, trivial⟩ (g_end (fun h => h))
        · rintro ⟨s22_1, s22_3, m22_⟩
          show G _ _ (J Z X 6 cm m22_ lm 149 [some (.ref (ad Z 32 0)), some (.int s22_1), some (.int s8_2), some (.int s22_3), none, none] [])
          refine g_iinc hX dX7_envy_149 ic_1 rfl (Nat.le_of_ble_eq_true rfl) rfl ?_
          refine g_goto hX dX7_envy_152 ?_
          exact g_wk (lv0 := [some (.ref (ad Z 32 0)), some (.int s22_1), some (.int (s8_2 + 1)), none, none, none]) ⟨rfl, rfl, rfl, trivial⟩ (g_end (fun h => h))
    · rintro ⟨s8_1, s8_2, m8_⟩
      show G _ _ (J Z X 6 cm m8_ lm 155 [some (.ref (ad Z 32 0)), some (.int s8_1), some (.int s8_2), none, none, none] [])
      refine g_iload_n hX dX7_envy_155 rfl rfl ?_
      exact g_iret hX (fun h => h) dX7_envy_156
  exact g r h hF

def f_X7_notes (mm : MM) (a1 : Int32) : Option (MM) :=
  (rd 16 (mm 8) a1).bind fun x5 =>
  if x5 = (-9) then
    (f_X7_of mm a1 4).bind fun x79 =>
    if x79 = 2 then
      (f_X7_become mm a1 4 0).bind fun r90 =>
      (f_X7_forgets r90 a1).bind fun r95 =>
      some r95
    else
      some mm
  else
    (rd 16 (mm 8) a1).bind fun x19 =>
    (f_X7_become mm a1 5 x19).bind fun r20 =>
    (rd 16 (r20 9) a1).bind fun x32 =>
    (f_X7_become r20 a1 6 x32).bind fun r33 =>
    (rd 16 (r33 10) a1).bind fun x45 =>
    ((if x45 = 0 then
        some 0
      else
        some 1) : Option (Int32)).bind fun k54_0 =>
    (f_X7_become r33 a1 7 k54_0).bind fun r54 =>
    (f_X7_of r54 a1 4).bind fun x60 =>
    if x60 = 0 then
      (f_X7_become r54 a1 4 1).bind fun r70 =>
      some r70
    else
      some r54

abbrev rm_X7_notes : Room := { frames := 2, cells := 0, slots := 0, locals := 44 }
set_option maxHeartbeats 2000000 in
set_option maxRecDepth 20000 in
theorem c_X7_notes {Z : ZC} {cm : CM} {mm : MM} {lm : LM} {a1 : Int32} {r : MM}  (h : f_X7_notes mm a1 = some r) : Ct Z yX7_notes cX7_notes 2 none rm_X7_notes [.ref (ad Z 32 0), .int a1] cm mm lm none cm r lm := by
  refine Ct_of (own := RX7) [some (.ref (ad Z 32 0)), some (.int a1)] ⟨by decide, rfl⟩ rfl (Nat.le_of_ble_eq_true rfl) rfl (fun X hX hF => ?_)
  have g : G (fun r : MM => Fx Z X none none cm r lm) (f_X7_notes mm a1) (J Z X 2 cm mm lm 0 [some (.ref (ad Z 32 0)), some (.int a1)] []) := by
    unfold f_X7_notes
    refine g_aload_n hX dX7_notes_0 rfl rfl ?_
    refine g_get hX fi_7_31 p7_0 e7_0 rfl dX7_notes_1 ?_
    refine g_iload_n hX dX7_notes_4 rfl rfl ?_
    refine g_iald hX p7_8 e7_8 dX7_notes_5 ?_
    intro x5 hx5
    refine g_bipush hX dX7_notes_6 bp_m9 ?_
    refine g_icmp_eq hX dX7_notes_8 (fun h8 => ?_) (fun h8 => ?_)
    · refine g_aload_n hX dX7_notes_76 rfl rfl ?_
      refine g_iload_n hX dX7_notes_77 rfl rfl ?_
      refine g_iconst hX dX7_notes_78 ic_4 ?_
      refine g_callV hX (As := [.int a1, .int 4]) (fun r => (some (.int r))) (fun _ => cm) (fun _ => mm) (fun _ => lm) (fun r hr => c_X7_of  hr) mi_X7_of ml_7_103 p7_0 e7_0 rfl rfl rfl rfl rfl (Nat.le_of_ble_eq_true rfl) dX7_notes_79 ?_
      intro x79 hx79
      refine g_iconst hX dX7_notes_82 ic_2 ?_
      refine g_icmp_ne hX dX7_notes_83 (fun h83 => ?_) (fun h83 => ?_)
      · refine g_aload_n hX dX7_notes_86 rfl rfl ?_
        refine g_iload_n hX dX7_notes_87 rfl rfl ?_
        refine g_iconst hX dX7_notes_88 ic_4 ?_
        refine g_iconst hX dX7_notes_89 ic_0 ?_
        refine g_callV hX (As := [.int a1, .int 4, .int 0]) (fun _ => none) (fun _ => cm) (fun r => r) (fun _ => lm) (fun r hr => c_X7_become  hr) mi_X7_become ml_7_84 p7_0 e7_0 rfl rfl rfl rfl rfl (Nat.le_of_ble_eq_true rfl) dX7_notes_90 ?_
        intro r90 hr90
        refine g_aload_n hX dX7_notes_93 rfl rfl ?_
        refine g_iload_n hX dX7_notes_94 rfl rfl ?_
        refine g_callV hX (As := [.int a1]) (fun _ => none) (fun _ => cm) (fun r => r) (fun _ => lm) (fun r hr => c_X7_forgets  hr) mi_X7_forgets ml_7_88 p7_0 e7_0 rfl rfl rfl rfl rfl (Nat.le_of_ble_eq_true rfl) dX7_notes_95 ?_
        intro r95 hr95
        exact g_vret hX (fun h => h) dX7_notes_98
      · exact g_vret hX (fun h => h) dX7_notes_98
    · refine g_aload_n hX dX7_notes_11 rfl rfl ?_
      refine g_iload_n hX dX7_notes_12 rfl rfl ?_
      refine g_iconst hX dX7_notes_13 ic_5 ?_
      refine g_aload_n hX dX7_notes_14 rfl rfl ?_
      refine g_get hX fi_7_31 p7_0 e7_0 rfl dX7_notes_15 ?_
      refine g_iload_n hX dX7_notes_18 rfl rfl ?_
      refine g_iald hX p7_8 e7_8 dX7_notes_19 ?_
      intro x19 hx19
      refine g_callV hX (As := [.int a1, .int 5, .int x19]) (fun _ => none) (fun _ => cm) (fun r => r) (fun _ => lm) (fun r hr => c_X7_become  hr) mi_X7_become ml_7_84 p7_0 e7_0 rfl rfl rfl rfl rfl (Nat.le_of_ble_eq_true rfl) dX7_notes_20 ?_
      intro r20 hr20
      refine g_aload_n hX dX7_notes_23 rfl rfl ?_
      refine g_iload_n hX dX7_notes_24 rfl rfl ?_
      refine g_bipush hX dX7_notes_25 bp_6 ?_
      refine g_aload_n hX dX7_notes_27 rfl rfl ?_
      refine g_get hX fi_7_34 p7_0 e7_0 rfl dX7_notes_28 ?_
      refine g_iload_n hX dX7_notes_31 rfl rfl ?_
      refine g_iald hX p7_9 e7_9 dX7_notes_32 ?_
      intro x32 hx32
      refine g_callV hX (As := [.int a1, .int 6, .int x32]) (fun _ => none) (fun _ => cm) (fun r => r) (fun _ => lm) (fun r hr => c_X7_become  hr) mi_X7_become ml_7_84 p7_0 e7_0 rfl rfl rfl rfl rfl (Nat.le_of_ble_eq_true rfl) dX7_notes_33 ?_
      intro r33 hr33
      refine g_aload_n hX dX7_notes_36 rfl rfl ?_
      refine g_iload_n hX dX7_notes_37 rfl rfl ?_
      refine g_bipush hX dX7_notes_38 bp_7 ?_
      refine g_aload_n hX dX7_notes_40 rfl rfl ?_
      refine g_get hX fi_7_37 p7_0 e7_0 rfl dX7_notes_41 ?_
      refine g_iload_n hX dX7_notes_44 rfl rfl ?_
      refine g_zald hX p7_10 e7_10 dX7_notes_45 ?_
      intro x45 hx45
      refine g_bind (fun v : Int32 => J Z X 2 cm r33 lm 54 [some (.ref (ad Z 32 0)), some (.int a1)] [.int v, .int 7, .int a1, .ref (ad Z 32 0)]) ?_ ?_
      · refine g_if_eq hX dX7_notes_46 (fun h46 => ?_) (fun h46 => ?_)
        · refine g_iconst hX dX7_notes_53 ic_0 ?_
          exact g_wk (lv0 := [some (.ref (ad Z 32 0)), some (.int a1)]) ⟨rfl, rfl, trivial⟩ (g_end (fun h => h))
        · refine g_iconst hX dX7_notes_49 ic_1 ?_
          refine g_goto hX dX7_notes_50 ?_
          exact g_wk (lv0 := [some (.ref (ad Z 32 0)), some (.int a1)]) ⟨rfl, rfl, trivial⟩ (g_end (fun h => h))
      · intro k54_0
        show G _ _ (J Z X 2 cm r33 lm 54 [some (.ref (ad Z 32 0)), some (.int a1)] [.int k54_0, .int 7, .int a1, .ref (ad Z 32 0)])
        refine g_callV hX (As := [.int a1, .int 7, .int k54_0]) (fun _ => none) (fun _ => cm) (fun r => r) (fun _ => lm) (fun r hr => c_X7_become  hr) mi_X7_become ml_7_84 p7_0 e7_0 rfl rfl rfl rfl rfl (Nat.le_of_ble_eq_true rfl) dX7_notes_54 ?_
        intro r54 hr54
        refine g_aload_n hX dX7_notes_57 rfl rfl ?_
        refine g_iload_n hX dX7_notes_58 rfl rfl ?_
        refine g_iconst hX dX7_notes_59 ic_4 ?_
        refine g_callV hX (As := [.int a1, .int 4]) (fun r => (some (.int r))) (fun _ => cm) (fun _ => r54) (fun _ => lm) (fun r hr => c_X7_of  hr) mi_X7_of ml_7_103 p7_0 e7_0 rfl rfl rfl rfl rfl (Nat.le_of_ble_eq_true rfl) dX7_notes_60 ?_
        intro x60 hx60
        refine g_if_ne hX dX7_notes_63 (fun h63 => ?_) (fun h63 => ?_)
        · refine g_aload_n hX dX7_notes_66 rfl rfl ?_
          refine g_iload_n hX dX7_notes_67 rfl rfl ?_
          refine g_iconst hX dX7_notes_68 ic_4 ?_
          refine g_iconst hX dX7_notes_69 ic_1 ?_
          refine g_callV hX (As := [.int a1, .int 4, .int 1]) (fun _ => none) (fun _ => cm) (fun r => r) (fun _ => lm) (fun r hr => c_X7_become  hr) mi_X7_become ml_7_84 p7_0 e7_0 rfl rfl rfl rfl rfl (Nat.le_of_ble_eq_true rfl) dX7_notes_70 ?_
          intro r70 hr70
          refine g_goto hX dX7_notes_73 ?_
          exact g_vret hX (fun h => h) dX7_notes_98
        · exact g_vret hX (fun h => h) dX7_notes_98
  exact g r h hF

def f_X7_round_B6 (s6_1 : Int32) (m6_ : MM) : Option ((Int32 × MM) ⊕ (Int32 × MM)) :=
  (rd 159 (m6_ 1) 157).bind fun x14 =>
  if x14 ≤ s6_1 then
    some (.inl (s6_1, m6_))
  else
    (f_X7_of m6_ s6_1 4).bind fun x21 =>
    if x21 = 1 then
      (f_X7_become m6_ s6_1 4 4).bind fun r32 =>
      (f_X7_forgets r32 s6_1).bind fun r37 =>
      some (.inr (s6_1 + 1, r37))
    else
      some (.inr (s6_1 + 1, m6_))

def f_X7_round_B66 (s66_1 : Int32) (s66_2 : Int32) (m66_ : MM) : Option ((Int32 × Int32 × MM) ⊕ (Int32 × Int32 × MM)) :=
  (rd 159 (m66_ 1) 157).bind fun x74 =>
  if x74 ≤ s66_2 then
    some (.inl (s66_1, s66_2, m66_))
  else
    (rd 16 (m66_ 8) s66_2).bind fun x84 =>
    ((if x84 = (-9) then
        some 0
      else
        (f_X7_of m66_ s66_2 4).bind fun x93 =>
        if x93 = 0 then
          some 1
        else
          some 0) : Option (Int32)).bind fun k104_0 =>
    (f_X7_notes m66_ s66_2).bind fun r108 =>
    some (.inr (s66_1 + k104_0, s66_2 + 1, r108))

def f_X7_round (mm : MM) : Option (Int32 × MM) :=
  (f_X7_keep mm).bind fun r1 =>
  (itr (fun s : Int32 × MM => f_X7_round_B6 s.1 s.2) 2000 (0, r1)).bind fun (s6_1, m6_) =>
  (f_X7_chooseAll m6_).bind fun r47 =>
  (rd 159 (r47 1) 158).bind fun x58 =>
  (wr 159 (r47 1) 158 (x58 + 1)).bind fun g61 =>
  (itr (fun s : Int32 × Int32 × MM => f_X7_round_B66 s.1 s.2.1 s.2.2) 2000 (0, 0, u2 r47 1 g61)).bind fun (s66_1, s66_2, m66_) =>
  some (s66_1, m66_)

abbrev rm_X7_round : Room := { frames := 7, cells := 0, slots := 0, locals := 157 }
set_option maxHeartbeats 2000000 in
set_option maxRecDepth 20000 in
theorem c_X7_round {Z : ZC} {cm : CM} {mm : MM} {lm : LM} {r : Int32 × MM}  (h : f_X7_round mm = some r) : Ct Z yX7_round cX7_round 3 (some .int) rm_X7_round [.ref (ad Z 32 0)] cm mm lm (some (.int r.1)) cm r.2 lm := by
  refine Ct_of (own := RX7) [some (.ref (ad Z 32 0)), none, none] ⟨by decide, rfl⟩ rfl (Nat.le_of_ble_eq_true rfl) rfl (fun X hX hF => ?_)
  have g : G (fun r : Int32 × MM => Fx Z X (some .int) (some (.int r.1)) cm r.2 lm) (f_X7_round mm) (J Z X 3 cm mm lm 0 [some (.ref (ad Z 32 0)), none, none] []) := by
    unfold f_X7_round
    refine g_aload_n hX dX7_round_0 rfl rfl ?_
    refine g_callV hX (As := []) (fun _ => none) (fun _ => cm) (fun r => r) (fun _ => lm) (fun r hr => c_X7_keep  hr) mi_X7_keep ml_7_77 p7_0 e7_0 rfl rfl rfl rfl rfl (Nat.le_of_ble_eq_true rfl) dX7_round_1 ?_
    intro r1 hr1
    refine g_iconst hX dX7_round_4 ic_0 ?_
    refine g_istore_n hX dX7_round_5 rfl (Nat.le_of_ble_eq_true rfl) rfl ?_
    refine g_loop (Hd := fun s : Int32 × MM => J Z X 3 cm s.2 lm 6 [some (.ref (ad Z 32 0)), some (.int s.1), none] []) (Ex := fun s : Int32 × MM => J Z X 3 cm s.2 lm 46 [some (.ref (ad Z 32 0)), some (.int s.1), none] []) ?_ ?_
    · rintro ⟨s6_1, m6_⟩
      show G _ (f_X7_round_B6 s6_1 m6_) (J Z X 3 cm m6_ lm 6 [some (.ref (ad Z 32 0)), some (.int s6_1), none] [])
      unfold f_X7_round_B6
      refine g_iload_n hX dX7_round_6 rfl rfl ?_
      refine g_aload_n hX dX7_round_7 rfl rfl ?_
      refine g_get hX fi_7_7 p7_0 e7_0 rfl dX7_round_8 ?_
      refine g_sipush hX dX7_round_11 sp_157 ?_
      refine g_iald hX p7_1 e7_1 dX7_round_14 ?_
      intro x14 hx14
      refine g_icmp_ge hX dX7_round_15 (fun h15 => ?_) (fun h15 => ?_)
      · exact g_wk (lv0 := [some (.ref (ad Z 32 0)), some (.int s6_1), none]) ⟨rfl, rfl, trivial⟩ (g_end (fun h => h))
      · refine g_aload_n hX dX7_round_18 rfl rfl ?_
        refine g_iload_n hX dX7_round_19 rfl rfl ?_
        refine g_iconst hX dX7_round_20 ic_4 ?_
        refine g_callV hX (As := [.int s6_1, .int 4]) (fun r => (some (.int r))) (fun _ => cm) (fun _ => m6_) (fun _ => lm) (fun r hr => c_X7_of  hr) mi_X7_of ml_7_103 p7_0 e7_0 rfl rfl rfl rfl rfl (Nat.le_of_ble_eq_true rfl) dX7_round_21 ?_
        intro x21 hx21
        refine g_iconst hX dX7_round_24 ic_1 ?_
        refine g_icmp_ne hX dX7_round_25 (fun h25 => ?_) (fun h25 => ?_)
        · refine g_aload_n hX dX7_round_28 rfl rfl ?_
          refine g_iload_n hX dX7_round_29 rfl rfl ?_
          refine g_iconst hX dX7_round_30 ic_4 ?_
          refine g_iconst hX dX7_round_31 ic_4 ?_
          refine g_callV hX (As := [.int s6_1, .int 4, .int 4]) (fun _ => none) (fun _ => cm) (fun r => r) (fun _ => lm) (fun r hr => c_X7_become  hr) mi_X7_become ml_7_84 p7_0 e7_0 rfl rfl rfl rfl rfl (Nat.le_of_ble_eq_true rfl) dX7_round_32 ?_
          intro r32 hr32
          refine g_aload_n hX dX7_round_35 rfl rfl ?_
          refine g_iload_n hX dX7_round_36 rfl rfl ?_
          refine g_callV hX (As := [.int s6_1]) (fun _ => none) (fun _ => cm) (fun r => r) (fun _ => lm) (fun r hr => c_X7_forgets  hr) mi_X7_forgets ml_7_88 p7_0 e7_0 rfl rfl rfl rfl rfl (Nat.le_of_ble_eq_true rfl) dX7_round_37 ?_
          intro r37 hr37
          refine g_iinc hX dX7_round_40 ic_1 rfl (Nat.le_of_ble_eq_true rfl) rfl ?_
          refine g_goto hX dX7_round_43 ?_
          exact g_wk (lv0 := [some (.ref (ad Z 32 0)), some (.int (s6_1 + 1)), none]) ⟨rfl, rfl, trivial⟩ (g_end (fun h => h))
        · refine g_iinc hX dX7_round_40 ic_1 rfl (Nat.le_of_ble_eq_true rfl) rfl ?_
          refine g_goto hX dX7_round_43 ?_
          exact g_wk (lv0 := [some (.ref (ad Z 32 0)), some (.int (s6_1 + 1)), none]) ⟨rfl, rfl, trivial⟩ (g_end (fun h => h))
    · rintro ⟨s6_1, m6_⟩
      show G _ _ (J Z X 3 cm m6_ lm 46 [some (.ref (ad Z 32 0)), some (.int s6_1), none] [])
      refine g_aload_n hX dX7_round_46 rfl rfl ?_
      refine g_callV hX (As := []) (fun _ => none) (fun _ => cm) (fun r => r) (fun _ => lm) (fun r hr => c_X7_chooseAll  hr) mi_X7_chooseAll ml_7_190 p7_0 e7_0 rfl rfl rfl rfl rfl (Nat.le_of_ble_eq_true rfl) dX7_round_47 ?_
      intro r47 hr47
      refine g_aload_n hX dX7_round_50 rfl rfl ?_
      refine g_get hX fi_7_7 p7_0 e7_0 rfl dX7_round_51 ?_
      refine g_sipush hX dX7_round_54 sp_158 ?_
      refine g_dup2 hX dX7_round_57 rfl rfl ?_
      refine g_iald hX p7_1 e7_1 dX7_round_58 ?_
      intro x58 hx58
      refine g_iconst hX dX7_round_59 ic_1 ?_
      refine g_iadd hX dX7_round_60 ?_
      refine g_iastM hX p7_1 (s7_1 Z _) dX7_round_61 ?_
      intro g61 hg61
      refine g_iconst hX dX7_round_62 ic_0 ?_
      refine g_istore_n hX dX7_round_63 rfl (Nat.le_of_ble_eq_true rfl) rfl ?_
      refine g_iconst hX dX7_round_64 ic_0 ?_
      refine g_istore_n hX dX7_round_65 rfl (Nat.le_of_ble_eq_true rfl) rfl ?_
      refine g_loop (Hd := fun s : Int32 × Int32 × MM => J Z X 3 cm s.2.2 lm 66 [some (.ref (ad Z 32 0)), some (.int s.1), some (.int s.2.1)] []) (Ex := fun s : Int32 × Int32 × MM => J Z X 3 cm s.2.2 lm 117 [some (.ref (ad Z 32 0)), some (.int s.1), some (.int s.2.1)] []) ?_ ?_
      · rintro ⟨s66_1, s66_2, m66_⟩
        show G _ (f_X7_round_B66 s66_1 s66_2 m66_) (J Z X 3 cm m66_ lm 66 [some (.ref (ad Z 32 0)), some (.int s66_1), some (.int s66_2)] [])
        unfold f_X7_round_B66
        refine g_iload_n hX dX7_round_66 rfl rfl ?_
        refine g_aload_n hX dX7_round_67 rfl rfl ?_
        refine g_get hX fi_7_7 p7_0 e7_0 rfl dX7_round_68 ?_
        refine g_sipush hX dX7_round_71 sp_157 ?_
        refine g_iald hX p7_1 e7_1 dX7_round_74 ?_
        intro x74 hx74
        refine g_icmp_ge hX dX7_round_75 (fun h75 => ?_) (fun h75 => ?_)
        · exact g_wk (lv0 := [some (.ref (ad Z 32 0)), some (.int s66_1), some (.int s66_2)]) ⟨rfl, rfl, rfl, trivial⟩ (g_end (fun h => h))
        · refine g_iload_n hX dX7_round_78 rfl rfl ?_
          refine g_aload_n hX dX7_round_79 rfl rfl ?_
          refine g_get hX fi_7_31 p7_0 e7_0 rfl dX7_round_80 ?_
          refine g_iload_n hX dX7_round_83 rfl rfl ?_
          refine g_iald hX p7_8 e7_8 dX7_round_84 ?_
          intro x84 hx84
          refine g_bipush hX dX7_round_85 bp_m9 ?_
          refine g_bind (fun v : Int32 => J Z X 3 cm m66_ lm 104 [some (.ref (ad Z 32 0)), some (.int s66_1), some (.int s66_2)] [.int v, .int s66_1]) ?_ ?_
          · refine g_icmp_eq hX dX7_round_87 (fun h87 => ?_) (fun h87 => ?_)
            · refine g_iconst hX dX7_round_103 ic_0 ?_
              exact g_wk (lv0 := [some (.ref (ad Z 32 0)), some (.int s66_1), some (.int s66_2)]) ⟨rfl, rfl, rfl, trivial⟩ (g_end (fun h => h))
            · refine g_aload_n hX dX7_round_90 rfl rfl ?_
              refine g_iload_n hX dX7_round_91 rfl rfl ?_
              refine g_iconst hX dX7_round_92 ic_4 ?_
              refine g_callV hX (As := [.int s66_2, .int 4]) (fun r => (some (.int r))) (fun _ => cm) (fun _ => m66_) (fun _ => lm) (fun r hr => c_X7_of  hr) mi_X7_of ml_7_103 p7_0 e7_0 rfl rfl rfl rfl rfl (Nat.le_of_ble_eq_true rfl) dX7_round_93 ?_
              intro x93 hx93
              refine g_if_ne hX dX7_round_96 (fun h96 => ?_) (fun h96 => ?_)
              · refine g_iconst hX dX7_round_99 ic_1 ?_
                refine g_goto hX dX7_round_100 ?_
                exact g_wk (lv0 := [some (.ref (ad Z 32 0)), some (.int s66_1), some (.int s66_2)]) ⟨rfl, rfl, rfl, trivial⟩ (g_end (fun h => h))
              · refine g_iconst hX dX7_round_103 ic_0 ?_
                exact g_wk (lv0 := [some (.ref (ad Z 32 0)), some (.int s66_1), some (.int s66_2)]) ⟨rfl, rfl, rfl, trivial⟩ (g_end (fun h => h))
          · intro k104_0
            show G _ _ (J Z X 3 cm m66_ lm 104 [some (.ref (ad Z 32 0)), some (.int s66_1), some (.int s66_2)] [.int k104_0, .int s66_1])
            refine g_iadd hX dX7_round_104 ?_
            refine g_istore_n hX dX7_round_105 rfl (Nat.le_of_ble_eq_true rfl) rfl ?_
            refine g_aload_n hX dX7_round_106 rfl rfl ?_
            refine g_iload_n hX dX7_round_107 rfl rfl ?_
            refine g_callV hX (As := [.int s66_2]) (fun _ => none) (fun _ => cm) (fun r => r) (fun _ => lm) (fun r hr => c_X7_notes  hr) mi_X7_notes ml_7_241 p7_0 e7_0 rfl rfl rfl rfl rfl (Nat.le_of_ble_eq_true rfl) dX7_round_108 ?_
            intro r108 hr108
            refine g_iinc hX dX7_round_111 ic_1 rfl (Nat.le_of_ble_eq_true rfl) rfl ?_
            refine g_goto hX dX7_round_114 ?_
            exact g_wk (lv0 := [some (.ref (ad Z 32 0)), some (.int (s66_1 + k104_0)), some (.int (s66_2 + 1))]) ⟨rfl, rfl, rfl, trivial⟩ (g_end (fun h => h))
      · rintro ⟨s66_1, s66_2, m66_⟩
        show G _ _ (J Z X 3 cm m66_ lm 117 [some (.ref (ad Z 32 0)), some (.int s66_1), some (.int s66_2)] [])
        refine g_iload_n hX dX7_round_117 rfl rfl ?_
        exact g_iret hX (fun h => h) dX7_round_118
  exact g r h hF

def f_X7_answer (mm : MM) (a1 a2 : Int32) : Option (Int32 × MM) :=
  (f_X7_isPerson mm a1).bind fun x2 =>
  if x2 = 0 then
    some ((-1), mm)
  else
    (f_X7_within a2 0 2).bind fun x13 =>
    if x13 = 0 then
      some ((-2), mm)
    else
      (f_X7_of mm a1 4).bind fun x25 =>
      if x25 = 1 then
        ((if a2 = 0 then
            some 4
          else
            if a2 = 1 then
              some 2
            else
              some 3) : Option (Int32)).bind fun k70_0 =>
        (f_X7_changes mm ((8 * a1) + 4) k70_0).bind fun r70 =>
        if a2 = 0 then
          (f_X7_forgets r70.2 a1).bind fun r80 =>
          some (r70.1, r80)
        else
          some (r70.1, r70.2)
      else
        (f_X7_of mm a1 4).bind fun x35 =>
        if x35 = 2 then
          ((if a2 = 0 then
              some 4
            else
              if a2 = 1 then
                some 2
              else
                some 3) : Option (Int32)).bind fun k70_0 =>
          (f_X7_changes mm ((8 * a1) + 4) k70_0).bind fun r70 =>
          if a2 = 0 then
            (f_X7_forgets r70.2 a1).bind fun r80 =>
            some (r70.1, r80)
          else
            some (r70.1, r70.2)
        else
          some ((-3), mm)

abbrev rm_X7_answer : Room := { frames := 2, cells := 0, slots := 0, locals := 44 }
set_option maxHeartbeats 2000000 in
set_option maxRecDepth 20000 in
theorem c_X7_answer {Z : ZC} {cm : CM} {mm : MM} {lm : LM} {a1 a2 : Int32} {r : Int32 × MM}  (h : f_X7_answer mm a1 a2 = some r) : Ct Z yX7_answer cX7_answer 4 (some .int) rm_X7_answer [.ref (ad Z 32 0), .int a1, .int a2] cm mm lm (some (.int r.1)) cm r.2 lm := by
  refine Ct_of (own := RX7) [some (.ref (ad Z 32 0)), some (.int a1), some (.int a2), none] ⟨by decide, rfl⟩ rfl (Nat.le_of_ble_eq_true rfl) rfl (fun X hX hF => ?_)
  have g : G (fun r : Int32 × MM => Fx Z X (some .int) (some (.int r.1)) cm r.2 lm) (f_X7_answer mm a1 a2) (J Z X 4 cm mm lm 0 [some (.ref (ad Z 32 0)), some (.int a1), some (.int a2), none] []) := by
    unfold f_X7_answer
    refine g_aload_n hX dX7_answer_0 rfl rfl ?_
    refine g_iload_n hX dX7_answer_1 rfl rfl ?_
    refine g_callV hX (As := [.int a1]) (fun r => (some (.int r))) (fun _ => cm) (fun _ => mm) (fun _ => lm) (fun r hr => c_X7_isPerson  hr) mi_X7_isPerson ml_7_92 p7_0 e7_0 rfl rfl rfl rfl rfl (Nat.le_of_ble_eq_true rfl) dX7_answer_2 ?_
    intro x2 hx2
    refine g_if_ne hX dX7_answer_5 (fun h5 => ?_) (fun h5 => ?_)
    · refine g_iconst hX dX7_answer_8 ic_m1 ?_
      exact g_iret hX (fun h => h) dX7_answer_9
    · refine g_iload_n hX dX7_answer_10 rfl rfl ?_
      refine g_iconst hX dX7_answer_11 ic_0 ?_
      refine g_iconst hX dX7_answer_12 ic_2 ?_
      refine g_callS hX (As := [.int a2, .int 0, .int 2]) (fun r => (some (.int r))) (fun _ => cm) (fun _ => mm) (fun _ => lm) (fun r hr => c_X7_within  hr) mi_X7_within ml_7_66 rfl rfl rfl (Nat.le_of_ble_eq_true rfl) dX7_answer_13 ?_
      intro x13 hx13
      refine g_if_ne hX dX7_answer_16 (fun h16 => ?_) (fun h16 => ?_)
      · refine g_bipush hX dX7_answer_19 bp_m2 ?_
        exact g_iret hX (fun h => h) dX7_answer_21
      · refine g_aload_n hX dX7_answer_22 rfl rfl ?_
        refine g_iload_n hX dX7_answer_23 rfl rfl ?_
        refine g_iconst hX dX7_answer_24 ic_4 ?_
        refine g_callV hX (As := [.int a1, .int 4]) (fun r => (some (.int r))) (fun _ => cm) (fun _ => mm) (fun _ => lm) (fun r hr => c_X7_of  hr) mi_X7_of ml_7_103 p7_0 e7_0 rfl rfl rfl rfl rfl (Nat.le_of_ble_eq_true rfl) dX7_answer_25 ?_
        intro x25 hx25
        refine g_iconst hX dX7_answer_28 ic_1 ?_
        refine g_icmp_eq hX dX7_answer_29 (fun h29 => ?_) (fun h29 => ?_)
        · refine g_aload_n hX dX7_answer_45 rfl rfl ?_
          refine g_bipush hX dX7_answer_46 bp_8 ?_
          refine g_iload_n hX dX7_answer_48 rfl rfl ?_
          refine g_imul hX dX7_answer_49 ?_
          refine g_iconst hX dX7_answer_50 ic_4 ?_
          refine g_iadd hX dX7_answer_51 ?_
          refine g_iload_n hX dX7_answer_52 rfl rfl ?_
          refine g_bind (fun v : Int32 => J Z X 4 cm mm lm 70 [some (.ref (ad Z 32 0)), some (.int a1), some (.int a2), none] [.int v, .int ((8 * a1) + 4), .ref (ad Z 32 0)]) ?_ ?_
          · refine g_if_ne hX dX7_answer_53 (fun h53 => ?_) (fun h53 => ?_)
            · refine g_iconst hX dX7_answer_56 ic_4 ?_
              refine g_goto hX dX7_answer_57 ?_
              exact g_wk (lv0 := [some (.ref (ad Z 32 0)), some (.int a1), some (.int a2), none]) ⟨rfl, rfl, rfl, trivial⟩ (g_end (fun h => h))
            · refine g_iload_n hX dX7_answer_60 rfl rfl ?_
              refine g_iconst hX dX7_answer_61 ic_1 ?_
              refine g_icmp_ne hX dX7_answer_62 (fun h62 => ?_) (fun h62 => ?_)
              · refine g_iconst hX dX7_answer_65 ic_2 ?_
                refine g_goto hX dX7_answer_66 ?_
                exact g_wk (lv0 := [some (.ref (ad Z 32 0)), some (.int a1), some (.int a2), none]) ⟨rfl, rfl, rfl, trivial⟩ (g_end (fun h => h))
              · refine g_iconst hX dX7_answer_69 ic_3 ?_
                exact g_wk (lv0 := [some (.ref (ad Z 32 0)), some (.int a1), some (.int a2), none]) ⟨rfl, rfl, rfl, trivial⟩ (g_end (fun h => h))
          · intro k70_0
            show G _ _ (J Z X 4 cm mm lm 70 [some (.ref (ad Z 32 0)), some (.int a1), some (.int a2), none] [.int k70_0, .int ((8 * a1) + 4), .ref (ad Z 32 0)])
            refine g_callV hX (As := [.int ((8 * a1) + 4), .int k70_0]) (fun r => (some (.int r.1))) (fun _ => cm) (fun r => r.2) (fun _ => lm) (fun r hr => c_X7_changes  hr) mi_X7_changes ml_7_95 p7_0 e7_0 rfl rfl rfl rfl rfl (Nat.le_of_ble_eq_true rfl) dX7_answer_70 ?_
            intro r70 hr70
            refine g_istore_n hX dX7_answer_73 rfl (Nat.le_of_ble_eq_true rfl) rfl ?_
            refine g_iload_n hX dX7_answer_74 rfl rfl ?_
            refine g_if_ne hX dX7_answer_75 (fun h75 => ?_) (fun h75 => ?_)
            · refine g_aload_n hX dX7_answer_78 rfl rfl ?_
              refine g_iload_n hX dX7_answer_79 rfl rfl ?_
              refine g_callV hX (As := [.int a1]) (fun _ => none) (fun _ => cm) (fun r => r) (fun _ => lm) (fun r hr => c_X7_forgets  hr) mi_X7_forgets ml_7_88 p7_0 e7_0 rfl rfl rfl rfl rfl (Nat.le_of_ble_eq_true rfl) dX7_answer_80 ?_
              intro r80 hr80
              refine g_iload_n hX dX7_answer_83 rfl rfl ?_
              exact g_iret hX (fun h => h) dX7_answer_84
            · refine g_iload_n hX dX7_answer_83 rfl rfl ?_
              exact g_iret hX (fun h => h) dX7_answer_84
        · refine g_aload_n hX dX7_answer_32 rfl rfl ?_
          refine g_iload_n hX dX7_answer_33 rfl rfl ?_
          refine g_iconst hX dX7_answer_34 ic_4 ?_
          refine g_callV hX (As := [.int a1, .int 4]) (fun r => (some (.int r))) (fun _ => cm) (fun _ => mm) (fun _ => lm) (fun r hr => c_X7_of  hr) mi_X7_of ml_7_103 p7_0 e7_0 rfl rfl rfl rfl rfl (Nat.le_of_ble_eq_true rfl) dX7_answer_35 ?_
          intro x35 hx35
          refine g_iconst hX dX7_answer_38 ic_2 ?_
          refine g_icmp_eq hX dX7_answer_39 (fun h39 => ?_) (fun h39 => ?_)
          · refine g_aload_n hX dX7_answer_45 rfl rfl ?_
            refine g_bipush hX dX7_answer_46 bp_8 ?_
            refine g_iload_n hX dX7_answer_48 rfl rfl ?_
            refine g_imul hX dX7_answer_49 ?_
            refine g_iconst hX dX7_answer_50 ic_4 ?_
            refine g_iadd hX dX7_answer_51 ?_
            refine g_iload_n hX dX7_answer_52 rfl rfl ?_
            refine g_bind (fun v : Int32 => J Z X 4 cm mm lm 70 [some (.ref (ad Z 32 0)), some (.int a1), some (.int a2), none] [.int v, .int ((8 * a1) + 4), .ref (ad Z 32 0)]) ?_ ?_
            · refine g_if_ne hX dX7_answer_53 (fun h53 => ?_) (fun h53 => ?_)
              · refine g_iconst hX dX7_answer_56 ic_4 ?_
                refine g_goto hX dX7_answer_57 ?_
                exact g_wk (lv0 := [some (.ref (ad Z 32 0)), some (.int a1), some (.int a2), none]) ⟨rfl, rfl, rfl, trivial⟩ (g_end (fun h => h))
              · refine g_iload_n hX dX7_answer_60 rfl rfl ?_
                refine g_iconst hX dX7_answer_61 ic_1 ?_
                refine g_icmp_ne hX dX7_answer_62 (fun h62 => ?_) (fun h62 => ?_)
                · refine g_iconst hX dX7_answer_65 ic_2 ?_
                  refine g_goto hX dX7_answer_66 ?_
                  exact g_wk (lv0 := [some (.ref (ad Z 32 0)), some (.int a1), some (.int a2), none]) ⟨rfl, rfl, rfl, trivial⟩ (g_end (fun h => h))
                · refine g_iconst hX dX7_answer_69 ic_3 ?_
                  exact g_wk (lv0 := [some (.ref (ad Z 32 0)), some (.int a1), some (.int a2), none]) ⟨rfl, rfl, rfl, trivial⟩ (g_end (fun h => h))
            · intro k70_0
              show G _ _ (J Z X 4 cm mm lm 70 [some (.ref (ad Z 32 0)), some (.int a1), some (.int a2), none] [.int k70_0, .int ((8 * a1) + 4), .ref (ad Z 32 0)])
              refine g_callV hX (As := [.int ((8 * a1) + 4), .int k70_0]) (fun r => (some (.int r.1))) (fun _ => cm) (fun r => r.2) (fun _ => lm) (fun r hr => c_X7_changes  hr) mi_X7_changes ml_7_95 p7_0 e7_0 rfl rfl rfl rfl rfl (Nat.le_of_ble_eq_true rfl) dX7_answer_70 ?_
              intro r70 hr70
              refine g_istore_n hX dX7_answer_73 rfl (Nat.le_of_ble_eq_true rfl) rfl ?_
              refine g_iload_n hX dX7_answer_74 rfl rfl ?_
              refine g_if_ne hX dX7_answer_75 (fun h75 => ?_) (fun h75 => ?_)
              · refine g_aload_n hX dX7_answer_78 rfl rfl ?_
                refine g_iload_n hX dX7_answer_79 rfl rfl ?_
                refine g_callV hX (As := [.int a1]) (fun _ => none) (fun _ => cm) (fun r => r) (fun _ => lm) (fun r hr => c_X7_forgets  hr) mi_X7_forgets ml_7_88 p7_0 e7_0 rfl rfl rfl rfl rfl (Nat.le_of_ble_eq_true rfl) dX7_answer_80 ?_
                intro r80 hr80
                refine g_iload_n hX dX7_answer_83 rfl rfl ?_
                exact g_iret hX (fun h => h) dX7_answer_84
              · refine g_iload_n hX dX7_answer_83 rfl rfl ?_
                exact g_iret hX (fun h => h) dX7_answer_84
          · refine g_bipush hX dX7_answer_42 bp_m3 ?_
            exact g_iret hX (fun h => h) dX7_answer_44
  exact g r h hF

def f_X7_again (mm : MM) (a1 : Int32) : Option (Int32 × MM) :=
  (f_X7_isPerson mm a1).bind fun x2 =>
  if x2 = 0 then
    some ((-1), mm)
  else
    (f_X7_of mm a1 4).bind fun x13 =>
    if x13 = 4 then
      (f_X7_changes mm ((8 * a1) + 4) 0).bind fun r31 =>
      (f_X7_forgets r31.2 a1).bind fun r37 =>
      some (1, r37)
    else
      some ((-3), mm)

abbrev rm_X7_again : Room := { frames := 2, cells := 0, slots := 0, locals := 44 }
set_option maxHeartbeats 2000000 in
set_option maxRecDepth 20000 in
theorem c_X7_again {Z : ZC} {cm : CM} {mm : MM} {lm : LM} {a1 : Int32} {r : Int32 × MM}  (h : f_X7_again mm a1 = some r) : Ct Z yX7_again cX7_again 2 (some .int) rm_X7_again [.ref (ad Z 32 0), .int a1] cm mm lm (some (.int r.1)) cm r.2 lm := by
  refine Ct_of (own := RX7) [some (.ref (ad Z 32 0)), some (.int a1)] ⟨by decide, rfl⟩ rfl (Nat.le_of_ble_eq_true rfl) rfl (fun X hX hF => ?_)
  have g : G (fun r : Int32 × MM => Fx Z X (some .int) (some (.int r.1)) cm r.2 lm) (f_X7_again mm a1) (J Z X 2 cm mm lm 0 [some (.ref (ad Z 32 0)), some (.int a1)] []) := by
    unfold f_X7_again
    refine g_aload_n hX dX7_again_0 rfl rfl ?_
    refine g_iload_n hX dX7_again_1 rfl rfl ?_
    refine g_callV hX (As := [.int a1]) (fun r => (some (.int r))) (fun _ => cm) (fun _ => mm) (fun _ => lm) (fun r hr => c_X7_isPerson  hr) mi_X7_isPerson ml_7_92 p7_0 e7_0 rfl rfl rfl rfl rfl (Nat.le_of_ble_eq_true rfl) dX7_again_2 ?_
    intro x2 hx2
    refine g_if_ne hX dX7_again_5 (fun h5 => ?_) (fun h5 => ?_)
    · refine g_iconst hX dX7_again_8 ic_m1 ?_
      exact g_iret hX (fun h => h) dX7_again_9
    · refine g_aload_n hX dX7_again_10 rfl rfl ?_
      refine g_iload_n hX dX7_again_11 rfl rfl ?_
      refine g_iconst hX dX7_again_12 ic_4 ?_
      refine g_callV hX (As := [.int a1, .int 4]) (fun r => (some (.int r))) (fun _ => cm) (fun _ => mm) (fun _ => lm) (fun r hr => c_X7_of  hr) mi_X7_of ml_7_103 p7_0 e7_0 rfl rfl rfl rfl rfl (Nat.le_of_ble_eq_true rfl) dX7_again_13 ?_
      intro x13 hx13
      refine g_iconst hX dX7_again_16 ic_4 ?_
      refine g_icmp_eq hX dX7_again_17 (fun h17 => ?_) (fun h17 => ?_)
      · refine g_aload_n hX dX7_again_23 rfl rfl ?_
        refine g_bipush hX dX7_again_24 bp_8 ?_
        refine g_iload_n hX dX7_again_26 rfl rfl ?_
        refine g_imul hX dX7_again_27 ?_
        refine g_iconst hX dX7_again_28 ic_4 ?_
        refine g_iadd hX dX7_again_29 ?_
        refine g_iconst hX dX7_again_30 ic_0 ?_
        refine g_callV hX (As := [.int ((8 * a1) + 4), .int 0]) (fun r => (some (.int r.1))) (fun _ => cm) (fun r => r.2) (fun _ => lm) (fun r hr => c_X7_changes  hr) mi_X7_changes ml_7_95 p7_0 e7_0 rfl rfl rfl rfl rfl (Nat.le_of_ble_eq_true rfl) dX7_again_31 ?_
        intro r31 hr31
        refine g_pop hX dX7_again_34 rfl ?_
        refine g_aload_n hX dX7_again_35 rfl rfl ?_
        refine g_iload_n hX dX7_again_36 rfl rfl ?_
        refine g_callV hX (As := [.int a1]) (fun _ => none) (fun _ => cm) (fun r => r) (fun _ => lm) (fun r hr => c_X7_forgets  hr) mi_X7_forgets ml_7_88 p7_0 e7_0 rfl rfl rfl rfl rfl (Nat.le_of_ble_eq_true rfl) dX7_again_37 ?_
        intro r37 hr37
        refine g_iconst hX dX7_again_40 ic_1 ?_
        exact g_iret hX (fun h => h) dX7_again_41
      · refine g_bipush hX dX7_again_20 bp_m3 ?_
        exact g_iret hX (fun h => h) dX7_again_22
  exact g r h hF

def f_X7_note (mm : MM) (a1 a2 : Int32) : Option (Int32) :=
  (f_X7_isPerson mm a1).bind fun x2 =>
  if x2 = 0 then
    some (-1)
  else
    (f_X7_within a2 0 2).bind fun x13 =>
    if x13 = 0 then
      some (-2)
    else
      (f_X7_of mm a1 (5 + a2)).bind fun x24 =>
      some x24

abbrev rm_X7_note : Room := { frames := 2, cells := 0, slots := 0, locals := 43 }
set_option maxHeartbeats 2000000 in
set_option maxRecDepth 20000 in
theorem c_X7_note {Z : ZC} {cm : CM} {mm : MM} {lm : LM} {a1 a2 : Int32} {r : Int32}  (h : f_X7_note mm a1 a2 = some r) : Ct Z yX7_note cX7_note 3 (some .int) rm_X7_note [.ref (ad Z 32 0), .int a1, .int a2] cm mm lm (some (.int r)) cm mm lm := by
  refine Ct_of (own := RX7) [some (.ref (ad Z 32 0)), some (.int a1), some (.int a2)] ⟨by decide, rfl⟩ rfl (Nat.le_of_ble_eq_true rfl) rfl (fun X hX hF => ?_)
  have g : G (fun r : Int32 => Fx Z X (some .int) (some (.int r)) cm mm lm) (f_X7_note mm a1 a2) (J Z X 3 cm mm lm 0 [some (.ref (ad Z 32 0)), some (.int a1), some (.int a2)] []) := by
    unfold f_X7_note
    refine g_aload_n hX dX7_note_0 rfl rfl ?_
    refine g_iload_n hX dX7_note_1 rfl rfl ?_
    refine g_callV hX (As := [.int a1]) (fun r => (some (.int r))) (fun _ => cm) (fun _ => mm) (fun _ => lm) (fun r hr => c_X7_isPerson  hr) mi_X7_isPerson ml_7_92 p7_0 e7_0 rfl rfl rfl rfl rfl (Nat.le_of_ble_eq_true rfl) dX7_note_2 ?_
    intro x2 hx2
    refine g_if_ne hX dX7_note_5 (fun h5 => ?_) (fun h5 => ?_)
    · refine g_iconst hX dX7_note_8 ic_m1 ?_
      exact g_iret hX (fun h => h) dX7_note_9
    · refine g_iload_n hX dX7_note_10 rfl rfl ?_
      refine g_iconst hX dX7_note_11 ic_0 ?_
      refine g_iconst hX dX7_note_12 ic_2 ?_
      refine g_callS hX (As := [.int a2, .int 0, .int 2]) (fun r => (some (.int r))) (fun _ => cm) (fun _ => mm) (fun _ => lm) (fun r hr => c_X7_within  hr) mi_X7_within ml_7_66 rfl rfl rfl (Nat.le_of_ble_eq_true rfl) dX7_note_13 ?_
      intro x13 hx13
      refine g_if_eq hX dX7_note_16 (fun h16 => ?_) (fun h16 => ?_)
      · refine g_bipush hX dX7_note_30 bp_m2 ?_
        exact g_iret hX (fun h => h) dX7_note_32
      · refine g_aload_n hX dX7_note_19 rfl rfl ?_
        refine g_iload_n hX dX7_note_20 rfl rfl ?_
        refine g_iconst hX dX7_note_21 ic_5 ?_
        refine g_iload_n hX dX7_note_22 rfl rfl ?_
        refine g_iadd hX dX7_note_23 ?_
        refine g_callV hX (As := [.int a1, .int (5 + a2)]) (fun r => (some (.int r))) (fun _ => cm) (fun _ => mm) (fun _ => lm) (fun r hr => c_X7_of  hr) mi_X7_of ml_7_103 p7_0 e7_0 rfl rfl rfl rfl rfl (Nat.le_of_ble_eq_true rfl) dX7_note_24 ?_
        intro x24 hx24
        refine g_goto hX dX7_note_27 ?_
        exact g_iret hX (fun h => h) dX7_note_32
  exact g r h hF

def f_X7_standing_B5 (mm : MM) (a1 : Int32) (a2 : Int32) (s5_3 : Int32) (s5_4 : Int32) : Option ((Int32 × Int32) ⊕ (Int32 × Int32)) :=
  (rd 159 (mm 1) 157).bind fun x14 =>
  if x14 ≤ s5_4 then
    some (.inl (s5_3, s5_4))
  else
    (f_X7_of mm s5_4 4).bind fun x23 =>
    (f_X7_within x23 a1 a2).bind fun x28 =>
    if x28 = 0 then
      some (.inr (s5_3 + 0, s5_4 + 1))
    else
      some (.inr (s5_3 + 1, s5_4 + 1))

def f_X7_standing (mm : MM) (a1 a2 : Int32) : Option (Int32) :=
  (itr (fun s : Int32 × Int32 => f_X7_standing_B5 mm a1 a2 s.1 s.2) 2000 (0, 0)).bind fun (s5_3, s5_4) =>
  some s5_3

abbrev rm_X7_standing : Room := { frames := 1, cells := 0, slots := 0, locals := 22 }
set_option maxHeartbeats 2000000 in
set_option maxRecDepth 20000 in
theorem c_X7_standing {Z : ZC} {cm : CM} {mm : MM} {lm : LM} {a1 a2 : Int32} {r : Int32}  (h : f_X7_standing mm a1 a2 = some r) : Ct Z yX7_standing cX7_standing 5 (some .int) rm_X7_standing [.ref (ad Z 32 0), .int a1, .int a2] cm mm lm (some (.int r)) cm mm lm := by
  refine Ct_of (own := RX7) [some (.ref (ad Z 32 0)), some (.int a1), some (.int a2), none, none] ⟨by decide, rfl⟩ rfl (Nat.le_of_ble_eq_true rfl) rfl (fun X hX hF => ?_)
  have g : G (fun r : Int32 => Fx Z X (some .int) (some (.int r)) cm mm lm) (f_X7_standing mm a1 a2) (J Z X 5 cm mm lm 0 [some (.ref (ad Z 32 0)), some (.int a1), some (.int a2), none, none] []) := by
    unfold f_X7_standing
    refine g_iconst hX dX7_standing_0 ic_0 ?_
    refine g_istore_n hX dX7_standing_1 rfl (Nat.le_of_ble_eq_true rfl) rfl ?_
    refine g_iconst hX dX7_standing_2 ic_0 ?_
    refine g_istore hX dX7_standing_3 (Nat.le_of_ble_eq_true rfl) rfl ?_
    refine g_loop (Hd := fun s : Int32 × Int32 => J Z X 5 cm mm lm 5 [some (.ref (ad Z 32 0)), some (.int a1), some (.int a2), some (.int s.1), some (.int s.2)] []) (Ex := fun s : Int32 × Int32 => J Z X 5 cm mm lm 47 [some (.ref (ad Z 32 0)), some (.int a1), some (.int a2), some (.int s.1), some (.int s.2)] []) ?_ ?_
    · rintro ⟨s5_3, s5_4⟩
      show G _ (f_X7_standing_B5 mm a1 a2 s5_3 s5_4) (J Z X 5 cm mm lm 5 [some (.ref (ad Z 32 0)), some (.int a1), some (.int a2), some (.int s5_3), some (.int s5_4)] [])
      unfold f_X7_standing_B5
      refine g_iload hX dX7_standing_5 rfl ?_
      refine g_aload_n hX dX7_standing_7 rfl rfl ?_
      refine g_get hX fi_7_7 p7_0 e7_0 rfl dX7_standing_8 ?_
      refine g_sipush hX dX7_standing_11 sp_157 ?_
      refine g_iald hX p7_1 e7_1 dX7_standing_14 ?_
      intro x14 hx14
      refine g_icmp_ge hX dX7_standing_15 (fun h15 => ?_) (fun h15 => ?_)
      · exact g_wk (lv0 := [some (.ref (ad Z 32 0)), some (.int a1), some (.int a2), some (.int s5_3), some (.int s5_4)]) ⟨rfl, rfl, rfl, rfl, rfl, trivial⟩ (g_end (fun h => h))
      · refine g_iload_n hX dX7_standing_18 rfl rfl ?_
        refine g_aload_n hX dX7_standing_19 rfl rfl ?_
        refine g_iload hX dX7_standing_20 rfl ?_
        refine g_iconst hX dX7_standing_22 ic_4 ?_
        refine g_callV hX (As := [.int s5_4, .int 4]) (fun r => (some (.int r))) (fun _ => cm) (fun _ => mm) (fun _ => lm) (fun r hr => c_X7_of  hr) mi_X7_of ml_7_103 p7_0 e7_0 rfl rfl rfl rfl rfl (Nat.le_of_ble_eq_true rfl) dX7_standing_23 ?_
        intro x23 hx23
        refine g_iload_n hX dX7_standing_26 rfl rfl ?_
        refine g_iload_n hX dX7_standing_27 rfl rfl ?_
        refine g_callS hX (As := [.int x23, .int a1, .int a2]) (fun r => (some (.int r))) (fun _ => cm) (fun _ => mm) (fun _ => lm) (fun r hr => c_X7_within  hr) mi_X7_within ml_7_66 rfl rfl rfl (Nat.le_of_ble_eq_true rfl) dX7_standing_28 ?_
        intro x28 hx28
        refine g_if_eq hX dX7_standing_31 (fun h31 => ?_) (fun h31 => ?_)
        · refine g_iconst hX dX7_standing_38 ic_0 ?_
          refine g_iadd hX dX7_standing_39 ?_
          refine g_istore_n hX dX7_standing_40 rfl (Nat.le_of_ble_eq_true rfl) rfl ?_
          refine g_iinc hX dX7_standing_41 ic_1 rfl (Nat.le_of_ble_eq_true rfl) rfl ?_
          refine g_goto hX dX7_standing_44 ?_
          exact g_wk (lv0 := [some (.ref (ad Z 32 0)), some (.int a1), some (.int a2), some (.int (s5_3 + 0)), some (.int (s5_4 + 1))]) ⟨rfl, rfl, rfl, rfl, rfl, trivial⟩ (g_end (fun h => h))
        · refine g_iconst hX dX7_standing_34 ic_1 ?_
          refine g_goto hX dX7_standing_35 ?_
          refine g_iadd hX dX7_standing_39 ?_
          refine g_istore_n hX dX7_standing_40 rfl (Nat.le_of_ble_eq_true rfl) rfl ?_
          refine g_iinc hX dX7_standing_41 ic_1 rfl (Nat.le_of_ble_eq_true rfl) rfl ?_
          refine g_goto hX dX7_standing_44 ?_
          exact g_wk (lv0 := [some (.ref (ad Z 32 0)), some (.int a1), some (.int a2), some (.int (s5_3 + 1)), some (.int (s5_4 + 1))]) ⟨rfl, rfl, rfl, rfl, rfl, trivial⟩ (g_end (fun h => h))
    · rintro ⟨s5_3, s5_4⟩
      show G _ _ (J Z X 5 cm mm lm 47 [some (.ref (ad Z 32 0)), some (.int a1), some (.int a2), some (.int s5_3), some (.int s5_4)] [])
      refine g_iload_n hX dX7_standing_47 rfl rfl ?_
      exact g_iret hX (fun h => h) dX7_standing_48
  exact g r h hF

def f_X7_many (mm : MM) (a1 : Int32) : Option (Int32 × MM) :=
  if a1 = 0 then
    (rd 159 (mm 1) 157).bind fun x55 =>
    some (x55, mm)
  else
  if a1 = 1 then
    (f_X7_standing mm 0 2).bind fun x60 =>
    some (x60, mm)
  else
  if a1 = 2 then
    (f_X7_choose mm).bind fun r65 =>
    (f_X7_chosen r65).bind fun x69 =>
    (f_X7_sizeOf x69).bind fun x72 =>
    some (x72, r65)
  else
  if a1 = 3 then
    (rd 159 (mm 1) 158).bind fun x83 =>
    some (x83, mm)
  else
  if a1 = 4 then
    some (mm 0 2, mm)
  else
  if a1 = 5 then
    (f_X7_chooseAll mm).bind fun r91 =>
    (f_X7_countedInAll r91).bind fun x95 =>
    some (x95, r91)
  else
  if a1 = 6 then
    (f_X7_standing mm 3 3).bind fun x102 =>
    some (x102, mm)
  else
  if a1 = 7 then
    (f_X7_standing mm 4 4).bind fun x109 =>
    some (x109, mm)
  else
  some ((-2), mm)

abbrev rm_X7_many : Room := { frames := 7, cells := 0, slots := 0, locals := 157 }
set_option maxHeartbeats 2000000 in
set_option maxRecDepth 20000 in
theorem c_X7_many {Z : ZC} {cm : CM} {mm : MM} {lm : LM} {a1 : Int32} {r : Int32 × MM}  (h : f_X7_many mm a1 = some r) : Ct Z yX7_many cX7_many 2 (some .int) rm_X7_many [.ref (ad Z 32 0), .int a1] cm mm lm (some (.int r.1)) cm r.2 lm := by
  refine Ct_of (own := RX7) [some (.ref (ad Z 32 0)), some (.int a1)] ⟨by decide, rfl⟩ rfl (Nat.le_of_ble_eq_true rfl) rfl (fun X hX hF => ?_)
  have g : G (fun r : Int32 × MM => Fx Z X (some .int) (some (.int r.1)) cm r.2 lm) (f_X7_many mm a1) (J Z X 2 cm mm lm 0 [some (.ref (ad Z 32 0)), some (.int a1)] []) := by
    unfold f_X7_many
    refine g_iload_n hX dX7_many_0 rfl rfl ?_
    refine g_tsw hX dX7_many_1 0 (by decide) (by decide) rfl rfl (fun h1_0 => ?_) (fun h1_0 => ?_)
    · refine g_aload_n hX dX7_many_48 rfl rfl ?_
      refine g_get hX fi_7_7 p7_0 e7_0 rfl dX7_many_49 ?_
      refine g_sipush hX dX7_many_52 sp_157 ?_
      refine g_iald hX p7_1 e7_1 dX7_many_55 ?_
      intro x55 hx55
      exact g_iret hX (fun h => h) dX7_many_56
    refine g_tsw hX dX7_many_1 1 (by decide) (by decide) rfl rfl (fun h1_1 => ?_) (fun h1_1 => ?_)
    · refine g_aload_n hX dX7_many_57 rfl rfl ?_
      refine g_iconst hX dX7_many_58 ic_0 ?_
      refine g_iconst hX dX7_many_59 ic_2 ?_
      refine g_callV hX (As := [.int 0, .int 2]) (fun r => (some (.int r))) (fun _ => cm) (fun _ => mm) (fun _ => lm) (fun r hr => c_X7_standing  hr) mi_X7_standing ml_7_244 p7_0 e7_0 rfl rfl rfl rfl rfl (Nat.le_of_ble_eq_true rfl) dX7_many_60 ?_
      intro x60 hx60
      exact g_iret hX (fun h => h) dX7_many_63
    refine g_tsw hX dX7_many_1 2 (by decide) (by decide) rfl rfl (fun h1_2 => ?_) (fun h1_2 => ?_)
    · refine g_aload_n hX dX7_many_64 rfl rfl ?_
      refine g_callV hX (As := []) (fun _ => none) (fun _ => cm) (fun r => r) (fun _ => lm) (fun r hr => c_X7_choose  hr) mi_X7_choose ml_7_184 p7_0 e7_0 rfl rfl rfl rfl rfl (Nat.le_of_ble_eq_true rfl) dX7_many_65 ?_
      intro r65 hr65
      refine g_aload_n hX dX7_many_68 rfl rfl ?_
      refine g_callV hX (As := []) (fun r => (some (.int r))) (fun _ => cm) (fun _ => r65) (fun _ => lm) (fun r hr => c_X7_chosen  hr) mi_X7_chosen ml_7_213 p7_0 e7_0 rfl rfl rfl rfl rfl (Nat.le_of_ble_eq_true rfl) dX7_many_69 ?_
      intro x69 hx69
      refine g_callS hX (As := [.int x69]) (fun r => (some (.int r))) (fun _ => cm) (fun _ => r65) (fun _ => lm) (fun r hr => c_X7_sizeOf  hr) mi_X7_sizeOf ml_7_217 rfl rfl rfl (Nat.le_of_ble_eq_true rfl) dX7_many_72 ?_
      intro x72 hx72
      exact g_iret hX (fun h => h) dX7_many_75
    refine g_tsw hX dX7_many_1 3 (by decide) (by decide) rfl rfl (fun h1_3 => ?_) (fun h1_3 => ?_)
    · refine g_aload_n hX dX7_many_76 rfl rfl ?_
      refine g_get hX fi_7_7 p7_0 e7_0 rfl dX7_many_77 ?_
      refine g_sipush hX dX7_many_80 sp_158 ?_
      refine g_iald hX p7_1 e7_1 dX7_many_83 ?_
      intro x83 hx83
      exact g_iret hX (fun h => h) dX7_many_84
    refine g_tsw hX dX7_many_1 4 (by decide) (by decide) rfl rfl (fun h1_4 => ?_) (fun h1_4 => ?_)
    · refine g_aload_n hX dX7_many_85 rfl rfl ?_
      refine g_get hX fi_7_74 p7_0 e7_0 rfl dX7_many_86 ?_
      exact g_iret hX (fun h => h) dX7_many_89
    refine g_tsw hX dX7_many_1 5 (by decide) (by decide) rfl rfl (fun h1_5 => ?_) (fun h1_5 => ?_)
    · refine g_aload_n hX dX7_many_90 rfl rfl ?_
      refine g_callV hX (As := []) (fun _ => none) (fun _ => cm) (fun r => r) (fun _ => lm) (fun r hr => c_X7_chooseAll  hr) mi_X7_chooseAll ml_7_190 p7_0 e7_0 rfl rfl rfl rfl rfl (Nat.le_of_ble_eq_true rfl) dX7_many_91 ?_
      intro r91 hr91
      refine g_aload_n hX dX7_many_94 rfl rfl ?_
      refine g_callV hX (As := []) (fun r => (some (.int r))) (fun _ => cm) (fun _ => r91) (fun _ => lm) (fun r hr => c_X7_countedInAll  hr) mi_X7_countedInAll ml_7_223 p7_0 e7_0 rfl rfl rfl rfl rfl (Nat.le_of_ble_eq_true rfl) dX7_many_95 ?_
      intro x95 hx95
      exact g_iret hX (fun h => h) dX7_many_98
    refine g_tsw hX dX7_many_1 6 (by decide) (by decide) rfl rfl (fun h1_6 => ?_) (fun h1_6 => ?_)
    · refine g_aload_n hX dX7_many_99 rfl rfl ?_
      refine g_iconst hX dX7_many_100 ic_3 ?_
      refine g_iconst hX dX7_many_101 ic_3 ?_
      refine g_callV hX (As := [.int 3, .int 3]) (fun r => (some (.int r))) (fun _ => cm) (fun _ => mm) (fun _ => lm) (fun r hr => c_X7_standing  hr) mi_X7_standing ml_7_244 p7_0 e7_0 rfl rfl rfl rfl rfl (Nat.le_of_ble_eq_true rfl) dX7_many_102 ?_
      intro x102 hx102
      exact g_iret hX (fun h => h) dX7_many_105
    refine g_tsw hX dX7_many_1 7 (by decide) (by decide) rfl rfl (fun h1_7 => ?_) (fun h1_7 => ?_)
    · refine g_aload_n hX dX7_many_106 rfl rfl ?_
      refine g_iconst hX dX7_many_107 ic_4 ?_
      refine g_iconst hX dX7_many_108 ic_4 ?_
      refine g_callV hX (As := [.int 4, .int 4]) (fun r => (some (.int r))) (fun _ => cm) (fun _ => mm) (fun _ => lm) (fun r hr => c_X7_standing  hr) mi_X7_standing ml_7_244 p7_0 e7_0 rfl rfl rfl rfl rfl (Nat.le_of_ble_eq_true rfl) dX7_many_109 ?_
      intro x109 hx109
      exact g_iret hX (fun h => h) dX7_many_112
    refine g_tsd hX dX7_many_1 (sw_out (n := 8) (fun k hk => match k, hk with | 0, _ => h1_0 | 1, _ => h1_1 | 2, _ => h1_2 | 3, _ => h1_3 | 4, _ => h1_4 | 5, _ => h1_5 | 6, _ => h1_6 | 7, _ => h1_7)) rfl ?_
    refine g_bipush hX dX7_many_113 bp_m2 ?_
    exact g_iret hX (fun h => h) dX7_many_115
  exact g r h hF
