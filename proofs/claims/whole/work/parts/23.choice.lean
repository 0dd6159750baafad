def f_X0_personAt (cm : CM) (C : Nat) (a1 : Int32) : Option (Int32) :=
  (f_X4_get cm C 1 16 a1).bind fun x5 =>
  some (x5 &&& 15)

abbrev rm_X0_personAt : Room := { frames := 1, cells := 0, slots := 0, locals := 21 }
set_option maxHeartbeats 2000000 in
set_option maxRecDepth 20000 in
theorem c_X0_personAt {Z : ZC} {cm : CM} {mm : MM} {lm : LM} {C : Nat} {a1 : Int32} {r : Int32} (hC : isCh C) (h : f_X0_personAt cm C a1 = some r) : Ct Z yX0_personAt cX0_personAt 2 (some .int) rm_X0_personAt [.ref (ad Z C 0), .int a1] cm mm lm (some (.int r)) cm mm lm := by
  refine Ct_of (own := RX0) [some (.ref (ad Z C 0)), some (.int a1)] ⟨by decide, rfl⟩ rfl (Nat.le_of_ble_eq_true rfl) rfl (fun X hX hF => ?_)
  have g : G (fun r : Int32 => Fx Z X (some .int) (some (.int r)) cm mm lm) (f_X0_personAt cm C a1) (J Z X 2 cm mm lm 0 [some (.ref (ad Z C 0)), some (.int a1)] []) := by
    unfold f_X0_personAt
    refine g_aload_n hX dX0_personAt_0 rfl rfl ?_
    refine g_get hX fi_0_14 (okC hC (by decide)) (e0_0 hC) rfl dX0_personAt_1 ?_
    refine g_iload_n hX dX0_personAt_4 rfl rfl ?_
    refine g_callV hX (As := [.int a1]) (fun r => (some (.int r))) (fun _ => cm) (fun _ => mm) (fun _ => lm) (fun r hr => c_X4_get (rw0_1 hC) hr) mi_X4_get ml_0_105 (rw0_1 hC).1 (eR_0 (rw0_1 hC)) rfl rfl rfl rfl rfl (Nat.le_of_ble_eq_true rfl) dX0_personAt_5 ?_
    intro x5 hx5
    refine g_bipush hX dX0_personAt_8 bp_15 ?_
    refine g_iand hX dX0_personAt_10 ?_
    exact g_iret hX (fun h => h) dX0_personAt_11
  exact g r h hF

def f_X0_freeSeats (cm : CM) (C : Nat) (a1 : Int32) : Option (Int32) :=
  (f_X4_get cm C 3 4 a1).bind fun x5 =>
  some x5

abbrev rm_X0_freeSeats : Room := { frames := 1, cells := 0, slots := 0, locals := 21 }
set_option maxHeartbeats 2000000 in
set_option maxRecDepth 20000 in
theorem c_X0_freeSeats {Z : ZC} {cm : CM} {mm : MM} {lm : LM} {C : Nat} {a1 : Int32} {r : Int32} (hC : isCh C) (h : f_X0_freeSeats cm C a1 = some r) : Ct Z yX0_freeSeats cX0_freeSeats 2 (some .int) rm_X0_freeSeats [.ref (ad Z C 0), .int a1] cm mm lm (some (.int r)) cm mm lm := by
  refine Ct_of (own := RX0) [some (.ref (ad Z C 0)), some (.int a1)] ⟨by decide, rfl⟩ rfl (Nat.le_of_ble_eq_true rfl) rfl (fun X hX hF => ?_)
  have g : G (fun r : Int32 => Fx Z X (some .int) (some (.int r)) cm mm lm) (f_X0_freeSeats cm C a1) (J Z X 2 cm mm lm 0 [some (.ref (ad Z C 0)), some (.int a1)] []) := by
    unfold f_X0_freeSeats
    refine g_aload_n hX dX0_freeSeats_0 rfl rfl ?_
    refine g_get hX fi_0_20 (okC hC (by decide)) (e0_0 hC) rfl dX0_freeSeats_1 ?_
    refine g_iload_n hX dX0_freeSeats_4 rfl rfl ?_
    refine g_callV hX (As := [.int a1]) (fun r => (some (.int r))) (fun _ => cm) (fun _ => mm) (fun _ => lm) (fun r hr => c_X4_get (rw0_3 hC) hr) mi_X4_get ml_0_105 (rw0_3 hC).1 (eR_0 (rw0_3 hC)) rfl rfl rfl rfl rfl (Nat.le_of_ble_eq_true rfl) dX0_freeSeats_5 ?_
    intro x5 hx5
    exact g_iret hX (fun h => h) dX0_freeSeats_8
  exact g r h hF

def f_X0_seatOf (cm : CM) (C : Nat) (a1 : Int32) : Option (Int32) :=
  (f_X4_get cm C 9 16 a1).bind fun x5 =>
  some x5

abbrev rm_X0_seatOf : Room := { frames := 1, cells := 0, slots := 0, locals := 21 }
set_option maxHeartbeats 2000000 in
set_option maxRecDepth 20000 in
theorem c_X0_seatOf {Z : ZC} {cm : CM} {mm : MM} {lm : LM} {C : Nat} {a1 : Int32} {r : Int32} (hC : isCh C) (h : f_X0_seatOf cm C a1 = some r) : Ct Z yX0_seatOf cX0_seatOf 2 (some .int) rm_X0_seatOf [.ref (ad Z C 0), .int a1] cm mm lm (some (.int r)) cm mm lm := by
  refine Ct_of (own := RX0) [some (.ref (ad Z C 0)), some (.int a1)] ⟨by decide, rfl⟩ rfl (Nat.le_of_ble_eq_true rfl) rfl (fun X hX hF => ?_)
  have g : G (fun r : Int32 => Fx Z X (some .int) (some (.int r)) cm mm lm) (f_X0_seatOf cm C a1) (J Z X 2 cm mm lm 0 [some (.ref (ad Z C 0)), some (.int a1)] []) := by
    unfold f_X0_seatOf
    refine g_aload_n hX dX0_seatOf_0 rfl rfl ?_
    refine g_get hX fi_0_29 (okC hC (by decide)) (e0_0 hC) rfl dX0_seatOf_1 ?_
    refine g_iload_n hX dX0_seatOf_4 rfl rfl ?_
    refine g_callV hX (As := [.int a1]) (fun r => (some (.int r))) (fun _ => cm) (fun _ => mm) (fun _ => lm) (fun r hr => c_X4_get (rw0_9 hC) hr) mi_X4_get ml_0_105 (rw0_9 hC).1 (eR_0 (rw0_9 hC)) rfl rfl rfl rfl rfl (Nat.le_of_ble_eq_true rfl) dX0_seatOf_5 ?_
    intro x5 hx5
    exact g_iret hX (fun h => h) dX0_seatOf_8
  exact g r h hF

def f_X0_groupOf (cm : CM) (C : Nat) (a1 : Int32) : Option (Int32) :=
  (f_X4_get cm C 11 16 a1).bind fun x5 =>
  some x5

abbrev rm_X0_groupOf : Room := { frames := 1, cells := 0, slots := 0, locals := 21 }
set_option maxHeartbeats 2000000 in
set_option maxRecDepth 20000 in
theorem c_X0_groupOf {Z : ZC} {cm : CM} {mm : MM} {lm : LM} {C : Nat} {a1 : Int32} {r : Int32} (hC : isCh C) (h : f_X0_groupOf cm C a1 = some r) : Ct Z yX0_groupOf cX0_groupOf 2 (some .int) rm_X0_groupOf [.ref (ad Z C 0), .int a1] cm mm lm (some (.int r)) cm mm lm := by
  refine Ct_of (own := RX0) [some (.ref (ad Z C 0)), some (.int a1)] ⟨by decide, rfl⟩ rfl (Nat.le_of_ble_eq_true rfl) rfl (fun X hX hF => ?_)
  have g : G (fun r : Int32 => Fx Z X (some .int) (some (.int r)) cm mm lm) (f_X0_groupOf cm C a1) (J Z X 2 cm mm lm 0 [some (.ref (ad Z C 0)), some (.int a1)] []) := by
    unfold f_X0_groupOf
    refine g_aload_n hX dX0_groupOf_0 rfl rfl ?_
    refine g_get hX fi_0_32 (okC hC (by decide)) (e0_0 hC) rfl dX0_groupOf_1 ?_
    refine g_iload_n hX dX0_groupOf_4 rfl rfl ?_
    refine g_callV hX (As := [.int a1]) (fun r => (some (.int r))) (fun _ => cm) (fun _ => mm) (fun _ => lm) (fun r hr => c_X4_get (rw0_11 hC) hr) mi_X4_get ml_0_105 (rw0_11 hC).1 (eR_0 (rw0_11 hC)) rfl rfl rfl rfl rfl (Nat.le_of_ble_eq_true rfl) dX0_groupOf_5 ?_
    intro x5 hx5
    exact g_iret hX (fun h => h) dX0_groupOf_8
  exact g r h hF

def f_X0_handedTo (cm : CM) (C : Nat) (a1 : Int32) : Option (Int32) :=
  (f_X4_get cm C 13 16 a1).bind fun x5 =>
  some x5

abbrev rm_X0_handedTo : Room := { frames := 1, cells := 0, slots := 0, locals := 21 }
set_option maxHeartbeats 2000000 in
set_option maxRecDepth 20000 in
theorem c_X0_handedTo {Z : ZC} {cm : CM} {mm : MM} {lm : LM} {C : Nat} {a1 : Int32} {r : Int32} (hC : isCh C) (h : f_X0_handedTo cm C a1 = some r) : Ct Z yX0_handedTo cX0_handedTo 2 (some .int) rm_X0_handedTo [.ref (ad Z C 0), .int a1] cm mm lm (some (.int r)) cm mm lm := by
  refine Ct_of (own := RX0) [some (.ref (ad Z C 0)), some (.int a1)] ⟨by decide, rfl⟩ rfl (Nat.le_of_ble_eq_true rfl) rfl (fun X hX hF => ?_)
  have g : G (fun r : Int32 => Fx Z X (some .int) (some (.int r)) cm mm lm) (f_X0_handedTo cm C a1) (J Z X 2 cm mm lm 0 [some (.ref (ad Z C 0)), some (.int a1)] []) := by
    unfold f_X0_handedTo
    refine g_aload_n hX dX0_handedTo_0 rfl rfl ?_
    refine g_get hX fi_0_35 (okC hC (by decide)) (e0_0 hC) rfl dX0_handedTo_1 ?_
    refine g_iload_n hX dX0_handedTo_4 rfl rfl ?_
    refine g_callV hX (As := [.int a1]) (fun r => (some (.int r))) (fun _ => cm) (fun _ => mm) (fun _ => lm) (fun r hr => c_X4_get (rw0_13 hC) hr) mi_X4_get ml_0_105 (rw0_13 hC).1 (eR_0 (rw0_13 hC)) rfl rfl rfl rfl rfl (Nat.le_of_ble_eq_true rfl) dX0_handedTo_5 ?_
    intro x5 hx5
    exact g_iret hX (fun h => h) dX0_handedTo_8
  exact g r h hF

def f_X0_has (cm : CM) (C : Nat) (a1 : Int32) : Option (Int32) :=
  if (((cm C 0 11) >>> (a1 &&& 31)) &&& 1) = 1 then
    some 1
  else
    some 0

abbrev rm_X0_has : Room := { frames := 0, cells := 0, slots := 0, locals := 0 }
set_option maxHeartbeats 2000000 in
set_option maxRecDepth 20000 in
theorem c_X0_has {Z : ZC} {cm : CM} {mm : MM} {lm : LM} {C : Nat} {a1 : Int32} {r : Int32} (hC : isCh C) (h : f_X0_has cm C a1 = some r) : Ct Z yX0_has cX0_has 2 (some .boolean) rm_X0_has [.ref (ad Z C 0), .int a1] cm mm lm (some (.int r)) cm mm lm := by
  refine Ct_of (own := RX0) [some (.ref (ad Z C 0)), some (.int a1)] ⟨by decide, rfl⟩ rfl (Nat.le_of_ble_eq_true rfl) rfl (fun X hX hF => ?_)
  have g : G (fun r : Int32 => Fx Z X (some .boolean) (some (.int r)) cm mm lm) (f_X0_has cm C a1) (J Z X 2 cm mm lm 0 [some (.ref (ad Z C 0)), some (.int a1)] []) := by
    unfold f_X0_has
    refine g_aload_n hX dX0_has_0 rfl rfl ?_
    refine g_get hX fi_0_55 (okC hC (by decide)) (e0_0 hC) rfl dX0_has_1 ?_
    refine g_iload_n hX dX0_has_4 rfl rfl ?_
    refine g_ishr hX dX0_has_5 ?_
    refine g_iconst hX dX0_has_6 ic_1 ?_
    refine g_iand hX dX0_has_7 ?_
    refine g_iconst hX dX0_has_8 ic_1 ?_
    refine g_icmp_ne hX dX0_has_9 (fun h9 => ?_) (fun h9 => ?_)
    · refine g_iconst hX dX0_has_12 ic_1 ?_
      refine g_goto hX dX0_has_13 ?_
      exact g_zret hX (by decide) (fun h => h) dX0_has_17
    · refine g_iconst hX dX0_has_16 ic_0 ?_
      exact g_zret hX (by decide) (fun h => h) dX0_has_17
  exact g r h hF

def f_X0_isTaken (cm : CM) (C : Nat) (a1 a2 : Int32) : Option (Int32) :=
  (f_X4_get cm C 9 16 a1).bind fun x5 =>
  if x5 = a2 then
    (f_X4_get cm C 13 16 a1).bind fun x17 =>
    if x17 = 0 then
      some 1
    else
      some 0
  else
    some 0

abbrev rm_X0_isTaken : Room := { frames := 1, cells := 0, slots := 0, locals := 21 }
set_option maxHeartbeats 2000000 in
set_option maxRecDepth 20000 in
theorem c_X0_isTaken {Z : ZC} {cm : CM} {mm : MM} {lm : LM} {C : Nat} {a1 a2 : Int32} {r : Int32} (hC : isCh C) (h : f_X0_isTaken cm C a1 a2 = some r) : Ct Z yX0_isTaken cX0_isTaken 3 (some .boolean) rm_X0_isTaken [.ref (ad Z C 0), .int a1, .int a2] cm mm lm (some (.int r)) cm mm lm := by
  refine Ct_of (own := RX0) [some (.ref (ad Z C 0)), some (.int a1), some (.int a2)] ⟨by decide, rfl⟩ rfl (Nat.le_of_ble_eq_true rfl) rfl (fun X hX hF => ?_)
  have g : G (fun r : Int32 => Fx Z X (some .boolean) (some (.int r)) cm mm lm) (f_X0_isTaken cm C a1 a2) (J Z X 3 cm mm lm 0 [some (.ref (ad Z C 0)), some (.int a1), some (.int a2)] []) := by
    unfold f_X0_isTaken
    refine g_aload_n hX dX0_isTaken_0 rfl rfl ?_
    refine g_get hX fi_0_29 (okC hC (by decide)) (e0_0 hC) rfl dX0_isTaken_1 ?_
    refine g_iload_n hX dX0_isTaken_4 rfl rfl ?_
    refine g_callV hX (As := [.int a1]) (fun r => (some (.int r))) (fun _ => cm) (fun _ => mm) (fun _ => lm) (fun r hr => c_X4_get (rw0_9 hC) hr) mi_X4_get ml_0_105 (rw0_9 hC).1 (eR_0 (rw0_9 hC)) rfl rfl rfl rfl rfl (Nat.le_of_ble_eq_true rfl) dX0_isTaken_5 ?_
    intro x5 hx5
    refine g_iload_n hX dX0_isTaken_8 rfl rfl ?_
    refine g_icmp_ne hX dX0_isTaken_9 (fun h9 => ?_) (fun h9 => ?_)
    · refine g_aload_n hX dX0_isTaken_12 rfl rfl ?_
      refine g_get hX fi_0_35 (okC hC (by decide)) (e0_0 hC) rfl dX0_isTaken_13 ?_
      refine g_iload_n hX dX0_isTaken_16 rfl rfl ?_
      refine g_callV hX (As := [.int a1]) (fun r => (some (.int r))) (fun _ => cm) (fun _ => mm) (fun _ => lm) (fun r hr => c_X4_get (rw0_13 hC) hr) mi_X4_get ml_0_105 (rw0_13 hC).1 (eR_0 (rw0_13 hC)) rfl rfl rfl rfl rfl (Nat.le_of_ble_eq_true rfl) dX0_isTaken_17 ?_
      intro x17 hx17
      refine g_if_ne hX dX0_isTaken_20 (fun h20 => ?_) (fun h20 => ?_)
      · refine g_iconst hX dX0_isTaken_23 ic_1 ?_
        refine g_goto hX dX0_isTaken_24 ?_
        exact g_zret hX (by decide) (fun h => h) dX0_isTaken_28
      · refine g_iconst hX dX0_isTaken_27 ic_0 ?_
        exact g_zret hX (by decide) (fun h => h) dX0_isTaken_28
    · refine g_iconst hX dX0_isTaken_27 ic_0 ?_
      exact g_zret hX (by decide) (fun h => h) dX0_isTaken_28
  exact g r h hF

def f_X0_members (cm : CM) (C : Nat) : Option (Int32) :=
  some (cm C 0 11)

abbrev rm_X0_members : Room := { frames := 0, cells := 0, slots := 0, locals := 0 }
set_option maxHeartbeats 2000000 in
set_option maxRecDepth 20000 in
theorem c_X0_members {Z : ZC} {cm : CM} {mm : MM} {lm : LM} {C : Nat} {r : Int32} (hC : isCh C) (h : f_X0_members cm C = some r) : Ct Z yX0_members cX0_members 1 (some .int) rm_X0_members [.ref (ad Z C 0)] cm mm lm (some (.int r)) cm mm lm := by
  refine Ct_of (own := RX0) [some (.ref (ad Z C 0))] ⟨by decide, rfl⟩ rfl (Nat.le_of_ble_eq_true rfl) rfl (fun X hX hF => ?_)
  have g : G (fun r : Int32 => Fx Z X (some .int) (some (.int r)) cm mm lm) (f_X0_members cm C) (J Z X 1 cm mm lm 0 [some (.ref (ad Z C 0))] []) := by
    unfold f_X0_members
    refine g_aload_n hX dX0_members_0 rfl rfl ?_
    refine g_get hX fi_0_55 (okC hC (by decide)) (e0_0 hC) rfl dX0_members_1 ?_
    exact g_iret hX (fun h => h) dX0_members_4
  exact g r h hF

def f_X0_takenAt_B5 (cm : CM) (C : Nat) (a1 : Int32) (a2 : Int32) (s5_3 : Int32) (s5_4 : Int32) : Option (((Int32 × Int32) ⊕ (Int32)) ⊕ (Int32 × Int32)) :=
  if (cm C 0 10) ≤ s5_4 then
    some (.inl (.inl (s5_3, s5_4)))
  else
    (f_X0_personAt cm C s5_4).bind fun x17 =>
    (f_X0_isTaken cm C x17 a1).bind fun x26 =>
    if x26 = 0 then
      some (.inr (s5_3, s5_4 + 1))
    else
      if s5_3 = a2 then
        some (.inl (.inr x17))
      else
        some (.inr (s5_3 + 1, s5_4 + 1))

def f_X0_takenAt (cm : CM) (C : Nat) (a1 a2 : Int32) : Option (Int32) :=
  (itr (fun s : Int32 × Int32 => f_X0_takenAt_B5 cm C a1 a2 s.1 s.2) 2000 (0, 0)).bind fun ou => match ou with
  | .inr r => some r
  | .inl (s5_3, s5_4) =>
  some (-9)

abbrev rm_X0_takenAt : Room := { frames := 2, cells := 0, slots := 0, locals := 43 }
set_option maxHeartbeats 2000000 in
set_option maxRecDepth 20000 in
theorem c_X0_takenAt {Z : ZC} {cm : CM} {mm : MM} {lm : LM} {C : Nat} {a1 a2 : Int32} {r : Int32} (hC : isCh C) (h : f_X0_takenAt cm C a1 a2 = some r) : Ct Z yX0_takenAt cX0_takenAt 6 (some .int) rm_X0_takenAt [.ref (ad Z C 0), .int a1, .int a2] cm mm lm (some (.int r)) cm mm lm := by
  refine Ct_of (own := RX0) [some (.ref (ad Z C 0)), some (.int a1), some (.int a2), none, none, none] ⟨by decide, rfl⟩ rfl (Nat.le_of_ble_eq_true rfl) rfl (fun X hX hF => ?_)
  have g : G (fun r : Int32 => Fx Z X (some .int) (some (.int r)) cm mm lm) (f_X0_takenAt cm C a1 a2) (J Z X 6 cm mm lm 0 [some (.ref (ad Z C 0)), some (.int a1), some (.int a2), none, none, none] []) := by
    unfold f_X0_takenAt
    refine g_iconst hX dX0_takenAt_0 ic_0 ?_
    refine g_istore_n hX dX0_takenAt_1 rfl (Nat.le_of_ble_eq_true rfl) rfl ?_
    refine g_iconst hX dX0_takenAt_2 ic_0 ?_
    refine g_istore hX dX0_takenAt_3 (Nat.le_of_ble_eq_true rfl) rfl ?_
    refine g_loop (Hd := fun s : Int32 × Int32 => J Z X 6 cm mm lm 5 [some (.ref (ad Z C 0)), some (.int a1), some (.int a2), some (.int s.1), some (.int s.2), none] []) (Ex := fun ou : (Int32 × Int32) ⊕ (Int32) => match ou with | .inl e => J Z X 6 cm mm lm 49 [some (.ref (ad Z C 0)), some (.int a1), some (.int a2), some (.int e.1), some (.int e.2), none] [] | .inr r => Fx Z X (some .int) (some (.int r)) cm mm lm) ?_ ?_
    · rintro ⟨s5_3, s5_4⟩
      show G _ (f_X0_takenAt_B5 cm C a1 a2 s5_3 s5_4) (J Z X 6 cm mm lm 5 [some (.ref (ad Z C 0)), some (.int a1), some (.int a2), some (.int s5_3), some (.int s5_4), none] [])
      unfold f_X0_takenAt_B5
      refine g_iload hX dX0_takenAt_5 rfl ?_
      refine g_aload_n hX dX0_takenAt_7 rfl rfl ?_
      refine g_get hX fi_0_52 (okC hC (by decide)) (e0_0 hC) rfl dX0_takenAt_8 ?_
      refine g_icmp_ge hX dX0_takenAt_11 (fun h11 => ?_) (fun h11 => ?_)
      · exact g_wk (lv0 := [some (.ref (ad Z C 0)), some (.int a1), some (.int a2), some (.int s5_3), some (.int s5_4), none]) ⟨rfl, rfl, rfl, rfl, rfl, trivial⟩ (g_end (fun h => h))
      · refine g_aload_n hX dX0_takenAt_14 rfl rfl ?_
        refine g_iload hX dX0_takenAt_15 rfl ?_
        refine g_callV hX (As := [.int s5_4]) (fun r => (some (.int r))) (fun _ => cm) (fun _ => mm) (fun _ => lm) (fun r hr => c_X0_personAt hC hr) mi_X0_personAt ml_0_90 (okC hC (by decide)) (e0_0 hC) rfl rfl rfl rfl rfl (Nat.le_of_ble_eq_true rfl) dX0_takenAt_17 ?_
        intro x17 hx17
        refine g_istore hX dX0_takenAt_20 (Nat.le_of_ble_eq_true rfl) rfl ?_
        refine g_aload_n hX dX0_takenAt_22 rfl rfl ?_
        refine g_iload hX dX0_takenAt_23 rfl ?_
        refine g_iload_n hX dX0_takenAt_25 rfl rfl ?_
        refine g_callV hX (As := [.int x17, .int a1]) (fun r => (some (.int r))) (fun _ => cm) (fun _ => mm) (fun _ => lm) (fun r hr => c_X0_isTaken hC hr) mi_X0_isTaken ml_0_94 (okC hC (by decide)) (e0_0 hC) rfl rfl rfl rfl rfl (Nat.le_of_ble_eq_true rfl) dX0_takenAt_26 ?_
        intro x26 hx26
        refine g_if_eq hX dX0_takenAt_29 (fun h29 => ?_) (fun h29 => ?_)
        · refine g_iinc hX dX0_takenAt_43 ic_1 rfl (Nat.le_of_ble_eq_true rfl) rfl ?_
          refine g_goto hX dX0_takenAt_46 ?_
          exact g_wk (lv0 := [some (.ref (ad Z C 0)), some (.int a1), some (.int a2), some (.int s5_3), some (.int (s5_4 + 1)), none]) ⟨rfl, rfl, rfl, rfl, rfl, trivial⟩ (g_end (fun h => h))
        · refine g_iload_n hX dX0_takenAt_32 rfl rfl ?_
          refine g_iload_n hX dX0_takenAt_33 rfl rfl ?_
          refine g_icmp_ne hX dX0_takenAt_34 (fun h34 => ?_) (fun h34 => ?_)
          · refine g_iload hX dX0_takenAt_37 rfl ?_
            exact g_iret hX (fun h => h) dX0_takenAt_39
          · refine g_iinc hX dX0_takenAt_40 ic_1 rfl (Nat.le_of_ble_eq_true rfl) rfl ?_
            refine g_iinc hX dX0_takenAt_43 ic_1 rfl (Nat.le_of_ble_eq_true rfl) rfl ?_
            refine g_goto hX dX0_takenAt_46 ?_
            exact g_wk (lv0 := [some (.ref (ad Z C 0)), some (.int a1), some (.int a2), some (.int (s5_3 + 1)), some (.int (s5_4 + 1)), none]) ⟨rfl, rfl, rfl, rfl, rfl, trivial⟩ (g_end (fun h => h))
    · rintro (⟨s5_3, s5_4⟩ | r)
      · show G _ _ (J Z X 6 cm mm lm 49 [some (.ref (ad Z C 0)), some (.int a1), some (.int a2), some (.int s5_3), some (.int s5_4), none] [])
        refine g_bipush hX dX0_takenAt_49 bp_m9 ?_
        exact g_iret hX (fun h => h) dX0_takenAt_51
      · exact g_end (fun h => h)
  exact g r h hF

def f_X0_countTaken_B4 (cm : CM) (C : Nat) (a1 : Int32) (s4_2 : Int32) (s4_3 : Int32) : Option ((Int32 × Int32) ⊕ (Int32 × Int32)) :=
  if (cm C 0 10) ≤ s4_3 then
    some (.inl (s4_2, s4_3))
  else
    (f_X0_isTaken cm C s4_3 a1).bind fun x15 =>
    if x15 = 0 then
      some (.inr (s4_2, s4_3 + 1))
    else
      some (.inr (s4_2 + 1, s4_3 + 1))

def f_X0_countTaken (cm : CM) (C : Nat) (a1 : Int32) : Option (Int32) :=
  (itr (fun s : Int32 × Int32 => f_X0_countTaken_B4 cm C a1 s.1 s.2) 2000 (0, 0)).bind fun (s4_2, s4_3) =>
  some s4_2

abbrev rm_X0_countTaken : Room := { frames := 2, cells := 0, slots := 0, locals := 43 }
set_option maxHeartbeats 2000000 in
set_option maxRecDepth 20000 in
theorem c_X0_countTaken {Z : ZC} {cm : CM} {mm : MM} {lm : LM} {C : Nat} {a1 : Int32} {r : Int32} (hC : isCh C) (h : f_X0_countTaken cm C a1 = some r) : Ct Z yX0_countTaken cX0_countTaken 4 (some .int) rm_X0_countTaken [.ref (ad Z C 0), .int a1] cm mm lm (some (.int r)) cm mm lm := by
  refine Ct_of (own := RX0) [some (.ref (ad Z C 0)), some (.int a1), none, none] ⟨by decide, rfl⟩ rfl (Nat.le_of_ble_eq_true rfl) rfl (fun X hX hF => ?_)
  have g : G (fun r : Int32 => Fx Z X (some .int) (some (.int r)) cm mm lm) (f_X0_countTaken cm C a1) (J Z X 4 cm mm lm 0 [some (.ref (ad Z C 0)), some (.int a1), none, none] []) := by
    unfold f_X0_countTaken
    refine g_iconst hX dX0_countTaken_0 ic_0 ?_
    refine g_istore_n hX dX0_countTaken_1 rfl (Nat.le_of_ble_eq_true rfl) rfl ?_
    refine g_iconst hX dX0_countTaken_2 ic_0 ?_
    refine g_istore_n hX dX0_countTaken_3 rfl (Nat.le_of_ble_eq_true rfl) rfl ?_
    refine g_loop (Hd := fun s : Int32 × Int32 => J Z X 4 cm mm lm 4 [some (.ref (ad Z C 0)), some (.int a1), some (.int s.1), some (.int s.2)] []) (Ex := fun s : Int32 × Int32 => J Z X 4 cm mm lm 30 [some (.ref (ad Z C 0)), some (.int a1), some (.int s.1), some (.int s.2)] []) ?_ ?_
    · rintro ⟨s4_2, s4_3⟩
      show G _ (f_X0_countTaken_B4 cm C a1 s4_2 s4_3) (J Z X 4 cm mm lm 4 [some (.ref (ad Z C 0)), some (.int a1), some (.int s4_2), some (.int s4_3)] [])
      unfold f_X0_countTaken_B4
      refine g_iload_n hX dX0_countTaken_4 rfl rfl ?_
      refine g_aload_n hX dX0_countTaken_5 rfl rfl ?_
      refine g_get hX fi_0_52 (okC hC (by decide)) (e0_0 hC) rfl dX0_countTaken_6 ?_
      refine g_icmp_ge hX dX0_countTaken_9 (fun h9 => ?_) (fun h9 => ?_)
      · exact g_wk (lv0 := [some (.ref (ad Z C 0)), some (.int a1), some (.int s4_2), some (.int s4_3)]) ⟨rfl, rfl, rfl, rfl, trivial⟩ (g_end (fun h => h))
      · refine g_aload_n hX dX0_countTaken_12 rfl rfl ?_
        refine g_iload_n hX dX0_countTaken_13 rfl rfl ?_
        refine g_iload_n hX dX0_countTaken_14 rfl rfl ?_
        refine g_callV hX (As := [.int s4_3, .int a1]) (fun r => (some (.int r))) (fun _ => cm) (fun _ => mm) (fun _ => lm) (fun r hr => c_X0_isTaken hC hr) mi_X0_isTaken ml_0_94 (okC hC (by decide)) (e0_0 hC) rfl rfl rfl rfl rfl (Nat.le_of_ble_eq_true rfl) dX0_countTaken_15 ?_
        intro x15 hx15
        refine g_if_eq hX dX0_countTaken_18 (fun h18 => ?_) (fun h18 => ?_)
        · refine g_iinc hX dX0_countTaken_24 ic_1 rfl (Nat.le_of_ble_eq_true rfl) rfl ?_
          refine g_goto hX dX0_countTaken_27 ?_
          exact g_wk (lv0 := [some (.ref (ad Z C 0)), some (.int a1), some (.int s4_2), some (.int (s4_3 + 1))]) ⟨rfl, rfl, rfl, rfl, trivial⟩ (g_end (fun h => h))
        · refine g_iinc hX dX0_countTaken_21 ic_1 rfl (Nat.le_of_ble_eq_true rfl) rfl ?_
          refine g_iinc hX dX0_countTaken_24 ic_1 rfl (Nat.le_of_ble_eq_true rfl) rfl ?_
          refine g_goto hX dX0_countTaken_27 ?_
          exact g_wk (lv0 := [some (.ref (ad Z C 0)), some (.int a1), some (.int (s4_2 + 1)), some (.int (s4_3 + 1))]) ⟨rfl, rfl, rfl, rfl, trivial⟩ (g_end (fun h => h))
    · rintro ⟨s4_2, s4_3⟩
      show G _ _ (J Z X 4 cm mm lm 30 [some (.ref (ad Z C 0)), some (.int a1), some (.int s4_2), some (.int s4_3)] [])
      refine g_iload_n hX dX0_countTaken_30 rfl rfl ?_
      exact g_iret hX (fun h => h) dX0_countTaken_31
  exact g r h hF

def f_X0_countSeated_B4 (cm : CM) (C : Nat) (a1 : Int32) (s4_2 : Int32) (s4_3 : Int32) : Option ((Int32 × Int32) ⊕ (Int32 × Int32)) :=
  if (cm C 0 10) ≤ s4_3 then
    some (.inl (s4_2, s4_3))
  else
    (f_X0_seatOf cm C s4_3).bind fun x14 =>
    if x14 = a1 then
      some (.inr (s4_2 + 1, s4_3 + 1))
    else
      some (.inr (s4_2, s4_3 + 1))

def f_X0_countSeated (cm : CM) (C : Nat) (a1 : Int32) : Option (Int32) :=
  (itr (fun s : Int32 × Int32 => f_X0_countSeated_B4 cm C a1 s.1 s.2) 2000 (0, 0)).bind fun (s4_2, s4_3) =>
  some s4_2

abbrev rm_X0_countSeated : Room := { frames := 2, cells := 0, slots := 0, locals := 42 }
set_option maxHeartbeats 2000000 in
set_option maxRecDepth 20000 in
theorem c_X0_countSeated {Z : ZC} {cm : CM} {mm : MM} {lm : LM} {C : Nat} {a1 : Int32} {r : Int32} (hC : isCh C) (h : f_X0_countSeated cm C a1 = some r) : Ct Z yX0_countSeated cX0_countSeated 4 (some .int) rm_X0_countSeated [.ref (ad Z C 0), .int a1] cm mm lm (some (.int r)) cm mm lm := by
  refine Ct_of (own := RX0) [some (.ref (ad Z C 0)), some (.int a1), none, none] ⟨by decide, rfl⟩ rfl (Nat.le_of_ble_eq_true rfl) rfl (fun X hX hF => ?_)
  have g : G (fun r : Int32 => Fx Z X (some .int) (some (.int r)) cm mm lm) (f_X0_countSeated cm C a1) (J Z X 4 cm mm lm 0 [some (.ref (ad Z C 0)), some (.int a1), none, none] []) := by
    unfold f_X0_countSeated
    refine g_iconst hX dX0_countSeated_0 ic_0 ?_
    refine g_istore_n hX dX0_countSeated_1 rfl (Nat.le_of_ble_eq_true rfl) rfl ?_
    refine g_iconst hX dX0_countSeated_2 ic_0 ?_
    refine g_istore_n hX dX0_countSeated_3 rfl (Nat.le_of_ble_eq_true rfl) rfl ?_
    refine g_loop (Hd := fun s : Int32 × Int32 => J Z X 4 cm mm lm 4 [some (.ref (ad Z C 0)), some (.int a1), some (.int s.1), some (.int s.2)] []) (Ex := fun s : Int32 × Int32 => J Z X 4 cm mm lm 30 [some (.ref (ad Z C 0)), some (.int a1), some (.int s.1), some (.int s.2)] []) ?_ ?_
    · rintro ⟨s4_2, s4_3⟩
      show G _ (f_X0_countSeated_B4 cm C a1 s4_2 s4_3) (J Z X 4 cm mm lm 4 [some (.ref (ad Z C 0)), some (.int a1), some (.int s4_2), some (.int s4_3)] [])
      unfold f_X0_countSeated_B4
      refine g_iload_n hX dX0_countSeated_4 rfl rfl ?_
      refine g_aload_n hX dX0_countSeated_5 rfl rfl ?_
      refine g_get hX fi_0_52 (okC hC (by decide)) (e0_0 hC) rfl dX0_countSeated_6 ?_
      refine g_icmp_ge hX dX0_countSeated_9 (fun h9 => ?_) (fun h9 => ?_)
      · exact g_wk (lv0 := [some (.ref (ad Z C 0)), some (.int a1), some (.int s4_2), some (.int s4_3)]) ⟨rfl, rfl, rfl, rfl, trivial⟩ (g_end (fun h => h))
      · refine g_aload_n hX dX0_countSeated_12 rfl rfl ?_
        refine g_iload_n hX dX0_countSeated_13 rfl rfl ?_
        refine g_callV hX (As := [.int s4_3]) (fun r => (some (.int r))) (fun _ => cm) (fun _ => mm) (fun _ => lm) (fun r hr => c_X0_seatOf hC hr) mi_X0_seatOf ml_0_107 (okC hC (by decide)) (e0_0 hC) rfl rfl rfl rfl rfl (Nat.le_of_ble_eq_true rfl) dX0_countSeated_14 ?_
        intro x14 hx14
        refine g_iload_n hX dX0_countSeated_17 rfl rfl ?_
        refine g_icmp_ne hX dX0_countSeated_18 (fun h18 => ?_) (fun h18 => ?_)
        · refine g_iinc hX dX0_countSeated_21 ic_1 rfl (Nat.le_of_ble_eq_true rfl) rfl ?_
          refine g_iinc hX dX0_countSeated_24 ic_1 rfl (Nat.le_of_ble_eq_true rfl) rfl ?_
          refine g_goto hX dX0_countSeated_27 ?_
          exact g_wk (lv0 := [some (.ref (ad Z C 0)), some (.int a1), some (.int (s4_2 + 1)), some (.int (s4_3 + 1))]) ⟨rfl, rfl, rfl, rfl, trivial⟩ (g_end (fun h => h))
        · refine g_iinc hX dX0_countSeated_24 ic_1 rfl (Nat.le_of_ble_eq_true rfl) rfl ?_
          refine g_goto hX dX0_countSeated_27 ?_
          exact g_wk (lv0 := [some (.ref (ad Z C 0)), some (.int a1), some (.int s4_2), some (.int (s4_3 + 1))]) ⟨rfl, rfl, rfl, rfl, trivial⟩ (g_end (fun h => h))
    · rintro ⟨s4_2, s4_3⟩
      show G _ _ (J Z X 4 cm mm lm 30 [some (.ref (ad Z C 0)), some (.int a1), some (.int s4_2), some (.int s4_3)] [])
      refine g_iload_n hX dX0_countSeated_30 rfl rfl ?_
      exact g_iret hX (fun h => h) dX0_countSeated_31
  exact g r h hF

def f_X0_countTo_B5 (cm : CM) (C : Nat) (a1 : Int32) (a2 : Int32) (s5_3 : Int32) (s5_4 : Int32) : Option ((Int32 × Int32) ⊕ (Int32 × Int32)) :=
  if (cm C 0 10) ≤ s5_4 then
    some (.inl (s5_3, s5_4))
  else
    (f_X0_isTaken cm C s5_4 a1).bind fun x18 =>
    if x18 = 0 then
      some (.inr (s5_3, s5_4 + 1))
    else
      (f_X0_groupOf cm C s5_4).bind fun x27 =>
      if x27 = a2 then
        some (.inr (s5_3 + 1, s5_4 + 1))
      else
        some (.inr (s5_3, s5_4 + 1))

def f_X0_countTo (cm : CM) (C : Nat) (a1 a2 : Int32) : Option (Int32) :=
  (itr (fun s : Int32 × Int32 => f_X0_countTo_B5 cm C a1 a2 s.1 s.2) 2000 (0, 0)).bind fun (s5_3, s5_4) =>
  some s5_3

abbrev rm_X0_countTo : Room := { frames := 2, cells := 0, slots := 0, locals := 43 }
set_option maxHeartbeats 2000000 in
set_option maxRecDepth 20000 in
theorem c_X0_countTo {Z : ZC} {cm : CM} {mm : MM} {lm : LM} {C : Nat} {a1 a2 : Int32} {r : Int32} (hC : isCh C) (h : f_X0_countTo cm C a1 a2 = some r) : Ct Z yX0_countTo cX0_countTo 5 (some .int) rm_X0_countTo [.ref (ad Z C 0), .int a1, .int a2] cm mm lm (some (.int r)) cm mm lm := by
  refine Ct_of (own := RX0) [some (.ref (ad Z C 0)), some (.int a1), some (.int a2), none, none] ⟨by decide, rfl⟩ rfl (Nat.le_of_ble_eq_true rfl) rfl (fun X hX hF => ?_)
  have g : G (fun r : Int32 => Fx Z X (some .int) (some (.int r)) cm mm lm) (f_X0_countTo cm C a1 a2) (J Z X 5 cm mm lm 0 [some (.ref (ad Z C 0)), some (.int a1), some (.int a2), none, none] []) := by
    unfold f_X0_countTo
    refine g_iconst hX dX0_countTo_0 ic_0 ?_
    refine g_istore_n hX dX0_countTo_1 rfl (Nat.le_of_ble_eq_true rfl) rfl ?_
    refine g_iconst hX dX0_countTo_2 ic_0 ?_
    refine g_istore hX dX0_countTo_3 (Nat.le_of_ble_eq_true rfl) rfl ?_
    refine g_loop (Hd := fun s : Int32 × Int32 => J Z X 5 cm mm lm 5 [some (.ref (ad Z C 0)), some (.int a1), some (.int a2), some (.int s.1), some (.int s.2)] []) (Ex := fun s : Int32 × Int32 => J Z X 5 cm mm lm 43 [some (.ref (ad Z C 0)), some (.int a1), some (.int a2), some (.int s.1), some (.int s.2)] []) ?_ ?_
    · rintro ⟨s5_3, s5_4⟩
      show G _ (f_X0_countTo_B5 cm C a1 a2 s5_3 s5_4) (J Z X 5 cm mm lm 5 [some (.ref (ad Z C 0)), some (.int a1), some (.int a2), some (.int s5_3), some (.int s5_4)] [])
      unfold f_X0_countTo_B5
      refine g_iload hX dX0_countTo_5 rfl ?_
      refine g_aload_n hX dX0_countTo_7 rfl rfl ?_
      refine g_get hX fi_0_52 (okC hC (by decide)) (e0_0 hC) rfl dX0_countTo_8 ?_
      refine g_icmp_ge hX dX0_countTo_11 (fun h11 => ?_) (fun h11 => ?_)
      · exact g_wk (lv0 := [some (.ref (ad Z C 0)), some (.int a1), some (.int a2), some (.int s5_3), some (.int s5_4)]) ⟨rfl, rfl, rfl, rfl, rfl, trivial⟩ (g_end (fun h => h))
      · refine g_aload_n hX dX0_countTo_14 rfl rfl ?_
        refine g_iload hX dX0_countTo_15 rfl ?_
        refine g_iload_n hX dX0_countTo_17 rfl rfl ?_
        refine g_callV hX (As := [.int s5_4, .int a1]) (fun r => (some (.int r))) (fun _ => cm) (fun _ => mm) (fun _ => lm) (fun r hr => c_X0_isTaken hC hr) mi_X0_isTaken ml_0_94 (okC hC (by decide)) (e0_0 hC) rfl rfl rfl rfl rfl (Nat.le_of_ble_eq_true rfl) dX0_countTo_18 ?_
        intro x18 hx18
        refine g_if_eq hX dX0_countTo_21 (fun h21 => ?_) (fun h21 => ?_)
        · refine g_iinc hX dX0_countTo_37 ic_1 rfl (Nat.le_of_ble_eq_true rfl) rfl ?_
          refine g_goto hX dX0_countTo_40 ?_
          exact g_wk (lv0 := [some (.ref (ad Z C 0)), some (.int a1), some (.int a2), some (.int s5_3), some (.int (s5_4 + 1))]) ⟨rfl, rfl, rfl, rfl, rfl, trivial⟩ (g_end (fun h => h))
        · refine g_aload_n hX dX0_countTo_24 rfl rfl ?_
          refine g_iload hX dX0_countTo_25 rfl ?_
          refine g_callV hX (As := [.int s5_4]) (fun r => (some (.int r))) (fun _ => cm) (fun _ => mm) (fun _ => lm) (fun r hr => c_X0_groupOf hC hr) mi_X0_groupOf ml_0_110 (okC hC (by decide)) (e0_0 hC) rfl rfl rfl rfl rfl (Nat.le_of_ble_eq_true rfl) dX0_countTo_27 ?_
          intro x27 hx27
          refine g_iload_n hX dX0_countTo_30 rfl rfl ?_
          refine g_icmp_ne hX dX0_countTo_31 (fun h31 => ?_) (fun h31 => ?_)
          · refine g_iinc hX dX0_countTo_34 ic_1 rfl (Nat.le_of_ble_eq_true rfl) rfl ?_
            refine g_iinc hX dX0_countTo_37 ic_1 rfl (Nat.le_of_ble_eq_true rfl) rfl ?_
            refine g_goto hX dX0_countTo_40 ?_
            exact g_wk (lv0 := [some (.ref (ad Z C 0)), some (.int a1), some (.int a2), some (.int (s5_3 + 1)), some (.int (s5_4 + 1))]) ⟨rfl, rfl, rfl, rfl, rfl, trivial⟩ (g_end (fun h => h))
          · refine g_iinc hX dX0_countTo_37 ic_1 rfl (Nat.le_of_ble_eq_true rfl) rfl ?_
            refine g_goto hX dX0_countTo_40 ?_
            exact g_wk (lv0 := [some (.ref (ad Z C 0)), some (.int a1), some (.int a2), some (.int s5_3), some (.int (s5_4 + 1))]) ⟨rfl, rfl, rfl, rfl, rfl, trivial⟩ (g_end (fun h => h))
    · rintro ⟨s5_3, s5_4⟩
      show G _ _ (J Z X 5 cm mm lm 43 [some (.ref (ad Z C 0)), some (.int a1), some (.int a2), some (.int s5_3), some (.int s5_4)] [])
      refine g_iload_n hX dX0_countTo_43 rfl rfl ?_
      exact g_iret hX (fun h => h) dX0_countTo_44
  exact g r h hF

def f_X0_countCountedIn_B4 (cm : CM) (C : Nat) (a1 : Int32) (s4_2 : Int32) (s4_3 : Int32) : Option ((Int32 × Int32) ⊕ (Int32 × Int32)) :=
  if 4 ≤ s4_3 then
    some (.inl (s4_2, s4_3))
  else
    (f_X0_countTo cm C a1 s4_3).bind fun x13 =>
    some (.inr (s4_2 + x13, s4_3 + 1))

def f_X0_countCountedIn (cm : CM) (C : Nat) (a1 : Int32) : Option (Int32) :=
  (itr (fun s : Int32 × Int32 => f_X0_countCountedIn_B4 cm C a1 s.1 s.2) 2000 (0, 0)).bind fun (s4_2, s4_3) =>
  some s4_2

abbrev rm_X0_countCountedIn : Room := { frames := 3, cells := 0, slots := 0, locals := 67 }
set_option maxHeartbeats 2000000 in
set_option maxRecDepth 20000 in
theorem c_X0_countCountedIn {Z : ZC} {cm : CM} {mm : MM} {lm : LM} {C : Nat} {a1 : Int32} {r : Int32} (hC : isCh C) (h : f_X0_countCountedIn cm C a1 = some r) : Ct Z yX0_countCountedIn cX0_countCountedIn 4 (some .int) rm_X0_countCountedIn [.ref (ad Z C 0), .int a1] cm mm lm (some (.int r)) cm mm lm := by
  refine Ct_of (own := RX0) [some (.ref (ad Z C 0)), some (.int a1), none, none] ⟨by decide, rfl⟩ rfl (Nat.le_of_ble_eq_true rfl) rfl (fun X hX hF => ?_)
  have g : G (fun r : Int32 => Fx Z X (some .int) (some (.int r)) cm mm lm) (f_X0_countCountedIn cm C a1) (J Z X 4 cm mm lm 0 [some (.ref (ad Z C 0)), some (.int a1), none, none] []) := by
    unfold f_X0_countCountedIn
    refine g_iconst hX dX0_countCountedIn_0 ic_0 ?_
    refine g_istore_n hX dX0_countCountedIn_1 rfl (Nat.le_of_ble_eq_true rfl) rfl ?_
    refine g_iconst hX dX0_countCountedIn_2 ic_0 ?_
    refine g_istore_n hX dX0_countCountedIn_3 rfl (Nat.le_of_ble_eq_true rfl) rfl ?_
    refine g_loop (Hd := fun s : Int32 × Int32 => J Z X 4 cm mm lm 4 [some (.ref (ad Z C 0)), some (.int a1), some (.int s.1), some (.int s.2)] []) (Ex := fun s : Int32 × Int32 => J Z X 4 cm mm lm 24 [some (.ref (ad Z C 0)), some (.int a1), some (.int s.1), some (.int s.2)] []) ?_ ?_
    · rintro ⟨s4_2, s4_3⟩
      show G _ (f_X0_countCountedIn_B4 cm C a1 s4_2 s4_3) (J Z X 4 cm mm lm 4 [some (.ref (ad Z C 0)), some (.int a1), some (.int s4_2), some (.int s4_3)] [])
      unfold f_X0_countCountedIn_B4
      refine g_iload_n hX dX0_countCountedIn_4 rfl rfl ?_
      refine g_iconst hX dX0_countCountedIn_5 ic_4 ?_
      refine g_icmp_ge hX dX0_countCountedIn_6 (fun h6 => ?_) (fun h6 => ?_)
      · exact g_wk (lv0 := [some (.ref (ad Z C 0)), some (.int a1), some (.int s4_2), some (.int s4_3)]) ⟨rfl, rfl, rfl, rfl, trivial⟩ (g_end (fun h => h))
      · refine g_iload_n hX dX0_countCountedIn_9 rfl rfl ?_
        refine g_aload_n hX dX0_countCountedIn_10 rfl rfl ?_
        refine g_iload_n hX dX0_countCountedIn_11 rfl rfl ?_
        refine g_iload_n hX dX0_countCountedIn_12 rfl rfl ?_
        refine g_callV hX (As := [.int a1, .int s4_3]) (fun r => (some (.int r))) (fun _ => cm) (fun _ => mm) (fun _ => lm) (fun r hr => c_X0_countTo hC hr) mi_X0_countTo ml_0_113 (okC hC (by decide)) (e0_0 hC) rfl rfl rfl rfl rfl (Nat.le_of_ble_eq_true rfl) dX0_countCountedIn_13 ?_
        intro x13 hx13
        refine g_iadd hX dX0_countCountedIn_16 ?_
        refine g_istore_n hX dX0_countCountedIn_17 rfl (Nat.le_of_ble_eq_true rfl) rfl ?_
        refine g_iinc hX dX0_countCountedIn_18 ic_1 rfl (Nat.le_of_ble_eq_true rfl) rfl ?_
        refine g_goto hX dX0_countCountedIn_21 ?_
        exact g_wk (lv0 := [some (.ref (ad Z C 0)), some (.int a1), some (.int (s4_2 + x13)), some (.int (s4_3 + 1))]) ⟨rfl, rfl, rfl, rfl, trivial⟩ (g_end (fun h => h))
    · rintro ⟨s4_2, s4_3⟩
      show G _ _ (J Z X 4 cm mm lm 24 [some (.ref (ad Z C 0)), some (.int a1), some (.int s4_2), some (.int s4_3)] [])
      refine g_iload_n hX dX0_countCountedIn_24 rfl rfl ?_
      exact g_iret hX (fun h => h) dX0_countCountedIn_25
  exact g r h hF

def f_X0_countCounted_B4 (cm : CM) (C : Nat) (s4_1 : Int32) (s4_2 : Int32) : Option ((Int32 × Int32) ⊕ (Int32 × Int32)) :=
  if 4 ≤ s4_2 then
    some (.inl (s4_1, s4_2))
  else
    (f_X0_countCountedIn cm C s4_2).bind fun x12 =>
    some (.inr (s4_1 + x12, s4_2 + 1))

def f_X0_countCounted (cm : CM) (C : Nat) : Option (Int32) :=
  (itr (fun s : Int32 × Int32 => f_X0_countCounted_B4 cm C s.1 s.2) 2000 (0, 0)).bind fun (s4_1, s4_2) =>
  some s4_1

abbrev rm_X0_countCounted : Room := { frames := 4, cells := 0, slots := 0, locals := 90 }
set_option maxHeartbeats 2000000 in
set_option maxRecDepth 20000 in
theorem c_X0_countCounted {Z : ZC} {cm : CM} {mm : MM} {lm : LM} {C : Nat} {r : Int32} (hC : isCh C) (h : f_X0_countCounted cm C = some r) : Ct Z yX0_countCounted cX0_countCounted 3 (some .int) rm_X0_countCounted [.ref (ad Z C 0)] cm mm lm (some (.int r)) cm mm lm := by
  refine Ct_of (own := RX0) [some (.ref (ad Z C 0)), none, none] ⟨by decide, rfl⟩ rfl (Nat.le_of_ble_eq_true rfl) rfl (fun X hX hF => ?_)
  have g : G (fun r : Int32 => Fx Z X (some .int) (some (.int r)) cm mm lm) (f_X0_countCounted cm C) (J Z X 3 cm mm lm 0 [some (.ref (ad Z C 0)), none, none] []) := by
    unfold f_X0_countCounted
    refine g_iconst hX dX0_countCounted_0 ic_0 ?_
    refine g_istore_n hX dX0_countCounted_1 rfl (Nat.le_of_ble_eq_true rfl) rfl ?_
    refine g_iconst hX dX0_countCounted_2 ic_0 ?_
    refine g_istore_n hX dX0_countCounted_3 rfl (Nat.le_of_ble_eq_true rfl) rfl ?_
    refine g_loop (Hd := fun s : Int32 × Int32 => J Z X 3 cm mm lm 4 [some (.ref (ad Z C 0)), some (.int s.1), some (.int s.2)] []) (Ex := fun s : Int32 × Int32 => J Z X 3 cm mm lm 23 [some (.ref (ad Z C 0)), some (.int s.1), some (.int s.2)] []) ?_ ?_
    · rintro ⟨s4_1, s4_2⟩
      show G _ (f_X0_countCounted_B4 cm C s4_1 s4_2) (J Z X 3 cm mm lm 4 [some (.ref (ad Z C 0)), some (.int s4_1), some (.int s4_2)] [])
      unfold f_X0_countCounted_B4
      refine g_iload_n hX dX0_countCounted_4 rfl rfl ?_
      refine g_iconst hX dX0_countCounted_5 ic_4 ?_
      refine g_icmp_ge hX dX0_countCounted_6 (fun h6 => ?_) (fun h6 => ?_)
      · exact g_wk (lv0 := [some (.ref (ad Z C 0)), some (.int s4_1), some (.int s4_2)]) ⟨rfl, rfl, rfl, trivial⟩ (g_end (fun h => h))
      · refine g_iload_n hX dX0_countCounted_9 rfl rfl ?_
        refine g_aload_n hX dX0_countCounted_10 rfl rfl ?_
        refine g_iload_n hX dX0_countCounted_11 rfl rfl ?_
        refine g_callV hX (As := [.int s4_2]) (fun r => (some (.int r))) (fun _ => cm) (fun _ => mm) (fun _ => lm) (fun r hr => c_X0_countCountedIn hC hr) mi_X0_countCountedIn ml_0_116 (okC hC (by decide)) (e0_0 hC) rfl rfl rfl rfl rfl (Nat.le_of_ble_eq_true rfl) dX0_countCounted_12 ?_
        intro x12 hx12
        refine g_iadd hX dX0_countCounted_15 ?_
        refine g_istore_n hX dX0_countCounted_16 rfl (Nat.le_of_ble_eq_true rfl) rfl ?_
        refine g_iinc hX dX0_countCounted_17 ic_1 rfl (Nat.le_of_ble_eq_true rfl) rfl ?_
        refine g_goto hX dX0_countCounted_20 ?_
        exact g_wk (lv0 := [some (.ref (ad Z C 0)), some (.int (s4_1 + x12)), some (.int (s4_2 + 1))]) ⟨rfl, rfl, rfl, trivial⟩ (g_end (fun h => h))
    · rintro ⟨s4_1, s4_2⟩
      show G _ _ (J Z X 3 cm mm lm 23 [some (.ref (ad Z C 0)), some (.int s4_1), some (.int s4_2)] [])
      refine g_iload_n hX dX0_countCounted_23 rfl rfl ?_
      exact g_iret hX (fun h => h) dX0_countCounted_24
  exact g r h hF

def f_X0_tallyTaken_B11 (C : Nat) (o : Nat) (a2 : Int32) (s11_3 : Int32) (c11_ : CM) : Option ((Int32 × CM) ⊕ (Int32 × CM)) :=
  if (c11_ C 0 10) ≤ s11_3 then
    some (.inl (s11_3, c11_))
  else
    (f_X0_isTaken c11_ C s11_3 a2).bind fun x22 =>
    if x22 = 0 then
      some (.inr (s11_3 + 1, c11_))
    else
      (f_X3_get c11_ o 48 s11_3).bind fun x36 =>
      (f_X5_add c11_ C x36 1).bind fun r40 =>
      some (.inr (s11_3 + 1, r40))

def f_X0_tallyTaken (cm : CM) (C o : Nat) (a2 : Int32) : Option (CM) :=
  (f_X5_begin cm C a2).bind fun r6 =>
  (itr (fun s : Int32 × CM => f_X0_tallyTaken_B11 C o a2 s.1 s.2) 2000 (0, r6)).bind fun (s11_3, c11_) =>
  some c11_

abbrev rm_X0_tallyTaken : Room := { frames := 3, cells := 0, slots := 0, locals := 68 }
set_option maxHeartbeats 2000000 in
set_option maxRecDepth 20000 in
theorem c_X0_tallyTaken {Z : ZC} {cm : CM} {mm : MM} {lm : LM} {C o : Nat} {a2 : Int32} {r : CM} (hC : isCh C) (hO : isOf o) (h : f_X0_tallyTaken cm C o a2 = some r) : Ct Z yX0_tallyTaken cX0_tallyTaken 4 none rm_X0_tallyTaken [.ref (ad Z C 0), .ref (ad Z o 0), .int a2] cm mm lm none r mm lm := by
  refine Ct_of (own := RX0) [some (.ref (ad Z C 0)), some (.ref (ad Z o 0)), some (.int a2), none] ⟨by decide, rfl⟩ rfl (Nat.le_of_ble_eq_true rfl) rfl (fun X hX hF => ?_)
  have g : G (fun r : CM => Fx Z X none none r mm lm) (f_X0_tallyTaken cm C o a2) (J Z X 4 cm mm lm 0 [some (.ref (ad Z C 0)), some (.ref (ad Z o 0)), some (.int a2), none] []) := by
    unfold f_X0_tallyTaken
    refine g_aload_n hX dX0_tallyTaken_0 rfl rfl ?_
    refine g_get hX fi_0_44 (okC hC (by decide)) (e0_0 hC) rfl dX0_tallyTaken_1 ?_
    refine g_aload_n hX dX0_tallyTaken_4 rfl rfl ?_
    refine g_iload_n hX dX0_tallyTaken_5 rfl rfl ?_
    refine g_callV hX (As := [.ref (ad Z C 0), .int a2]) (fun _ => none) (fun r => r) (fun _ => mm) (fun _ => lm) (fun r hr => c_X5_begin hC hr) mi_X5_begin ml_0_134 (okC hC (by decide)) (e0_17 hC) rfl rfl rfl rfl rfl (Nat.le_of_ble_eq_true rfl) dX0_tallyTaken_6 ?_
    intro r6 hr6
    refine g_iconst hX dX0_tallyTaken_9 ic_0 ?_
    refine g_istore_n hX dX0_tallyTaken_10 rfl (Nat.le_of_ble_eq_true rfl) rfl ?_
    refine g_loop (Hd := fun s : Int32 × CM => J Z X 4 s.2 mm lm 11 [some (.ref (ad Z C 0)), some (.ref (ad Z o 0)), some (.int a2), some (.int s.1)] []) (Ex := fun s : Int32 × CM => J Z X 4 s.2 mm lm 49 [some (.ref (ad Z C 0)), some (.ref (ad Z o 0)), some (.int a2), some (.int s.1)] []) ?_ ?_
    · rintro ⟨s11_3, c11_⟩
      show G _ (f_X0_tallyTaken_B11 C o a2 s11_3 c11_) (J Z X 4 c11_ mm lm 11 [some (.ref (ad Z C 0)), some (.ref (ad Z o 0)), some (.int a2), some (.int s11_3)] [])
      unfold f_X0_tallyTaken_B11
      refine g_iload_n hX dX0_tallyTaken_11 rfl rfl ?_
      refine g_aload_n hX dX0_tallyTaken_12 rfl rfl ?_
      refine g_get hX fi_0_52 (okC hC (by decide)) (e0_0 hC) rfl dX0_tallyTaken_13 ?_
      refine g_icmp_ge hX dX0_tallyTaken_16 (fun h16 => ?_) (fun h16 => ?_)
      · exact g_wk (lv0 := [some (.ref (ad Z C 0)), some (.ref (ad Z o 0)), some (.int a2), some (.int s11_3)]) ⟨rfl, rfl, rfl, rfl, trivial⟩ (g_end (fun h => h))
      · refine g_aload_n hX dX0_tallyTaken_19 rfl rfl ?_
        refine g_iload_n hX dX0_tallyTaken_20 rfl rfl ?_
        refine g_iload_n hX dX0_tallyTaken_21 rfl rfl ?_
        refine g_callV hX (As := [.int s11_3, .int a2]) (fun r => (some (.int r))) (fun _ => c11_) (fun _ => mm) (fun _ => lm) (fun r hr => c_X0_isTaken hC hr) mi_X0_isTaken ml_0_94 (okC hC (by decide)) (e0_0 hC) rfl rfl rfl rfl rfl (Nat.le_of_ble_eq_true rfl) dX0_tallyTaken_22 ?_
        intro x22 hx22
        refine g_if_eq hX dX0_tallyTaken_25 (fun h25 => ?_) (fun h25 => ?_)
        · refine g_iinc hX dX0_tallyTaken_43 ic_1 rfl (Nat.le_of_ble_eq_true rfl) rfl ?_
          refine g_goto hX dX0_tallyTaken_46 ?_
          exact g_wk (lv0 := [some (.ref (ad Z C 0)), some (.ref (ad Z o 0)), some (.int a2), some (.int (s11_3 + 1))]) ⟨rfl, rfl, rfl, rfl, trivial⟩ (g_end (fun h => h))
        · refine g_aload_n hX dX0_tallyTaken_28 rfl rfl ?_
          refine g_get hX fi_0_44 (okC hC (by decide)) (e0_0 hC) rfl dX0_tallyTaken_29 ?_
          refine g_aload_n hX dX0_tallyTaken_32 rfl rfl ?_
          refine g_bipush hX dX0_tallyTaken_33 bp_48 ?_
          refine g_iload_n hX dX0_tallyTaken_35 rfl rfl ?_
          refine g_callV hX (As := [.int 48, .int s11_3]) (fun r => (some (.int r))) (fun _ => c11_) (fun _ => mm) (fun _ => lm) (fun r hr => c_X3_get hO hr) mi_X3_get ml_0_76 (okO hO (by decide)) (e3_0 hO) rfl rfl rfl rfl rfl (Nat.le_of_ble_eq_true rfl) dX0_tallyTaken_36 ?_
          intro x36 hx36
          refine g_iconst hX dX0_tallyTaken_39 ic_1 ?_
          refine g_callV hX (As := [.int x36, .int 1]) (fun _ => none) (fun r => r) (fun _ => mm) (fun _ => lm) (fun r hr => c_X5_add hC hr) mi_X5_add ml_0_121 (okC hC (by decide)) (e0_17 hC) rfl rfl rfl rfl rfl (Nat.le_of_ble_eq_true rfl) dX0_tallyTaken_40 ?_
          intro r40 hr40
          refine g_iinc hX dX0_tallyTaken_43 ic_1 rfl (Nat.le_of_ble_eq_true rfl) rfl ?_
          refine g_goto hX dX0_tallyTaken_46 ?_
          exact g_wk (lv0 := [some (.ref (ad Z C 0)), some (.ref (ad Z o 0)), some (.int a2), some (.int (s11_3 + 1))]) ⟨rfl, rfl, rfl, rfl, trivial⟩ (g_end (fun h => h))
    · rintro ⟨s11_3, c11_⟩
      show G _ _ (J Z X 4 c11_ mm lm 49 [some (.ref (ad Z C 0)), some (.ref (ad Z o 0)), some (.int a2), some (.int s11_3)] [])
      exact g_vret hX (fun h => h) dX0_tallyTaken_49
  exact g r h hF

def f_X0_fillOf (cm : CM) (C o : Nat) (a2 : Int32) : Option (Int32 × CM) :=
  (f_X0_tallyTaken cm C o a2).bind fun r3 =>
  (f_X5_fill r3 C).bind fun x10 =>
  some (x10, r3)

abbrev rm_X0_fillOf : Room := { frames := 4, cells := 0, slots := 0, locals := 91 }
set_option maxHeartbeats 2000000 in
set_option maxRecDepth 20000 in
theorem c_X0_fillOf {Z : ZC} {cm : CM} {mm : MM} {lm : LM} {C o : Nat} {a2 : Int32} {r : Int32 × CM} (hC : isCh C) (hO : isOf o) (h : f_X0_fillOf cm C o a2 = some r) : Ct Z yX0_fillOf cX0_fillOf 3 (some .int) rm_X0_fillOf [.ref (ad Z C 0), .ref (ad Z o 0), .int a2] cm mm lm (some (.int r.1)) r.2 mm lm := by
  refine Ct_of (own := RX0) [some (.ref (ad Z C 0)), some (.ref (ad Z o 0)), some (.int a2)] ⟨by decide, rfl⟩ rfl (Nat.le_of_ble_eq_true rfl) rfl (fun X hX hF => ?_)
  have g : G (fun r : Int32 × CM => Fx Z X (some .int) (some (.int r.1)) r.2 mm lm) (f_X0_fillOf cm C o a2) (J Z X 3 cm mm lm 0 [some (.ref (ad Z C 0)), some (.ref (ad Z o 0)), some (.int a2)] []) := by
    unfold f_X0_fillOf
    refine g_aload_n hX dX0_fillOf_0 rfl rfl ?_
    refine g_aload_n hX dX0_fillOf_1 rfl rfl ?_
    refine g_iload_n hX dX0_fillOf_2 rfl rfl ?_
    refine g_callV hX (As := [.ref (ad Z o 0), .int a2]) (fun _ => none) (fun r => r) (fun _ => mm) (fun _ => lm) (fun r hr => c_X0_tallyTaken hC hO hr) mi_X0_tallyTaken ml_0_87 (okC hC (by decide)) (e0_0 hC) rfl rfl rfl rfl rfl (Nat.le_of_ble_eq_true rfl) dX0_fillOf_3 ?_
    intro r3 hr3
    refine g_aload_n hX dX0_fillOf_6 rfl rfl ?_
    refine g_get hX fi_0_44 (okC hC (by decide)) (e0_0 hC) rfl dX0_fillOf_7 ?_
    refine g_callV hX (As := []) (fun r => (some (.int r))) (fun _ => r3) (fun _ => mm) (fun _ => lm) (fun r hr => c_X5_fill hC hr) mi_X5_fill ml_0_119 (okC hC (by decide)) (e0_17 hC) rfl rfl rfl rfl rfl (Nat.le_of_ble_eq_true rfl) dX0_fillOf_10 ?_
    intro x10 hx10
    exact g_iret hX (fun h => h) dX0_fillOf_13
  exact g r h hF

def f_X0_withoutSeat (cm : CM) (C : Nat) (a1 : Int32) : Option (Int32) :=
  (f_X4_get cm C 7 4 a1).bind fun x5 =>
  some (x5 &&& ((cm C 0 11) ^^^ (-1)))

abbrev rm_X0_withoutSeat : Room := { frames := 1, cells := 0, slots := 0, locals := 21 }
set_option maxHeartbeats 2000000 in
set_option maxRecDepth 20000 in
theorem c_X0_withoutSeat {Z : ZC} {cm : CM} {mm : MM} {lm : LM} {C : Nat} {a1 : Int32} {r : Int32} (hC : isCh C) (h : f_X0_withoutSeat cm C a1 = some r) : Ct Z yX0_withoutSeat cX0_withoutSeat 2 (some .int) rm_X0_withoutSeat [.ref (ad Z C 0), .int a1] cm mm lm (some (.int r)) cm mm lm := by
  refine Ct_of (own := RX0) [some (.ref (ad Z C 0)), some (.int a1)] ⟨by decide, rfl⟩ rfl (Nat.le_of_ble_eq_true rfl) rfl (fun X hX hF => ?_)
  have g : G (fun r : Int32 => Fx Z X (some .int) (some (.int r)) cm mm lm) (f_X0_withoutSeat cm C a1) (J Z X 2 cm mm lm 0 [some (.ref (ad Z C 0)), some (.int a1)] []) := by
    unfold f_X0_withoutSeat
    refine g_aload_n hX dX0_withoutSeat_0 rfl rfl ?_
    refine g_get hX fi_0_26 (okC hC (by decide)) (e0_0 hC) rfl dX0_withoutSeat_1 ?_
    refine g_iload_n hX dX0_withoutSeat_4 rfl rfl ?_
    refine g_callV hX (As := [.int a1]) (fun r => (some (.int r))) (fun _ => cm) (fun _ => mm) (fun _ => lm) (fun r hr => c_X4_get (rw0_7 hC) hr) mi_X4_get ml_0_105 (rw0_7 hC).1 (eR_0 (rw0_7 hC)) rfl rfl rfl rfl rfl (Nat.le_of_ble_eq_true rfl) dX0_withoutSeat_5 ?_
    intro x5 hx5
    refine g_aload_n hX dX0_withoutSeat_8 rfl rfl ?_
    refine g_get hX fi_0_55 (okC hC (by decide)) (e0_0 hC) rfl dX0_withoutSeat_9 ?_
    refine g_iconst hX dX0_withoutSeat_12 ic_m1 ?_
    refine g_ixor hX dX0_withoutSeat_13 ?_
    refine g_iand hX dX0_withoutSeat_14 ?_
    exact g_iret hX (fun h => h) dX0_withoutSeat_15
  exact g r h hF

def f_X0_countEnvious_B13 (C : Nat) (o : Nat) (a3 : Int32) (a4 : Int32) (x2 : Int32) (s13_6 : Int32) (s13_7 : Int32) (c13_ : CM) : Option ((Int32 × Int32 × CM) ⊕ (Int32 × Int32 × CM)) :=
  if (c13_ C 0 10) ≤ s13_7 then
    some (.inl (s13_6, s13_7, c13_))
  else
    if ((x2 >>> (s13_7 &&& 31)) &&& 1) = 1 then
      (f_X3_isAhead c13_ o s13_7 a3).bind fun x37 =>
      if x37 = 0 then
        some (.inr (s13_6, s13_7 + 1, c13_))
      else
        (f_X3_get c13_ o 48 s13_7).bind fun x52 =>
        (f_X5_add c13_ C x52 1).bind fun r56 =>
        (f_X5_fill r56 C).bind fun x63 =>
        ((if x63 < a4 then
            some s13_6
          else
            some (s13_6 + 1)) : Option (Int32)).bind fun j74_6 =>
        (f_X3_get r56 o 48 s13_7).bind fun x83 =>
        (f_X5_add r56 C x83 (-1)).bind fun r87 =>
        some (.inr (j74_6, s13_7 + 1, r87))
    else
      some (.inr (s13_6, s13_7 + 1, c13_))

def f_X0_countEnvious (cm : CM) (C o : Nat) (a2 a3 a4 : Int32) : Option (Int32 × CM) :=
  (f_X0_withoutSeat cm C a2).bind fun x2 =>
  (itr (fun s : Int32 × Int32 × CM => f_X0_countEnvious_B13 C o a3 a4 x2 s.1 s.2.1 s.2.2) 2000 (0, 0, cm)).bind fun (s13_6, s13_7, c13_) =>
  some (s13_6, c13_)

abbrev rm_X0_countEnvious : Room := { frames := 3, cells := 0, slots := 0, locals := 67 }
set_option maxHeartbeats 2000000 in
set_option maxRecDepth 20000 in
theorem c_X0_countEnvious {Z : ZC} {cm : CM} {mm : MM} {lm : LM} {C o : Nat} {a2 a3 a4 : Int32} {r : Int32 × CM} (hC : isCh C) (hO : isOf o) (h : f_X0_countEnvious cm C o a2 a3 a4 = some r) : Ct Z yX0_countEnvious cX0_countEnvious 8 (some .int) rm_X0_countEnvious [.ref (ad Z C 0), .ref (ad Z o 0), .int a2, .int a3, .int a4] cm mm lm (some (.int r.1)) r.2 mm lm := by
  refine Ct_of (own := RX0) [some (.ref (ad Z C 0)), some (.ref (ad Z o 0)), some (.int a2), some (.int a3), some (.int a4), none, none, none] ⟨by decide, rfl⟩ rfl (Nat.le_of_ble_eq_true rfl) rfl (fun X hX hF => ?_)
  have g : G (fun r : Int32 × CM => Fx Z X (some .int) (some (.int r.1)) r.2 mm lm) (f_X0_countEnvious cm C o a2 a3 a4) (J Z X 8 cm mm lm 0 [some (.ref (ad Z C 0)), some (.ref (ad Z o 0)), some (.int a2), some (.int a3), some (.int a4), none, none, none] []) := by
    unfold f_X0_countEnvious
    refine g_aload_n hX dX0_countEnvious_0 rfl rfl ?_
    refine g_iload_n hX dX0_countEnvious_1 rfl rfl ?_
    refine g_callV hX (As := [.int a2]) (fun r => (some (.int r))) (fun _ => cm) (fun _ => mm) (fun _ => lm) (fun r hr => c_X0_withoutSeat hC hr) mi_X0_withoutSeat ml_0_128 (okC hC (by decide)) (e0_0 hC) rfl rfl rfl rfl rfl (Nat.le_of_ble_eq_true rfl) dX0_countEnvious_2 ?_
    intro x2 hx2
    refine g_istore hX dX0_countEnvious_5 (Nat.le_of_ble_eq_true rfl) rfl ?_
    refine g_iconst hX dX0_countEnvious_7 ic_0 ?_
    refine g_istore hX dX0_countEnvious_8 (Nat.le_of_ble_eq_true rfl) rfl ?_
    refine g_iconst hX dX0_countEnvious_10 ic_0 ?_
    refine g_istore hX dX0_countEnvious_11 (Nat.le_of_ble_eq_true rfl) rfl ?_
    refine g_loop (Hd := fun s : Int32 × Int32 × CM => J Z X 8 s.2.2 mm lm 13 [some (.ref (ad Z C 0)), some (.ref (ad Z o 0)), some (.int a2), some (.int a3), some (.int a4), some (.int x2), some (.int s.1), some (.int s.2.1)] []) (Ex := fun s : Int32 × Int32 × CM => J Z X 8 s.2.2 mm lm 96 [some (.ref (ad Z C 0)), some (.ref (ad Z o 0)), some (.int a2), some (.int a3), some (.int a4), some (.int x2), some (.int s.1), some (.int s.2.1)] []) ?_ ?_
    · rintro ⟨s13_6, s13_7, c13_⟩
      show G _ (f_X0_countEnvious_B13 C o a3 a4 x2 s13_6 s13_7 c13_) (J Z X 8 c13_ mm lm 13 [some (.ref (ad Z C 0)), some (.ref (ad Z o 0)), some (.int a2), some (.int a3), some (.int a4), some (.int x2), some (.int s13_6), some (.int s13_7)] [])
      unfold f_X0_countEnvious_B13
      refine g_iload hX dX0_countEnvious_13 rfl ?_
      refine g_aload_n hX dX0_countEnvious_15 rfl rfl ?_
      refine g_get hX fi_0_52 (okC hC (by decide)) (e0_0 hC) rfl dX0_countEnvious_16 ?_
      refine g_icmp_ge hX dX0_countEnvious_19 (fun h19 => ?_) (fun h19 => ?_)
      · exact g_wk (lv0 := [some (.ref (ad Z C 0)), some (.ref (ad Z o 0)), some (.int a2), some (.int a3), some (.int a4), some (.int x2), some (.int s13_6), some (.int s13_7)]) ⟨rfl, rfl, rfl, rfl, rfl, rfl, rfl, rfl, trivial⟩ (g_end (fun h => h))
      · refine g_iload hX dX0_countEnvious_22 rfl ?_
        refine g_iload hX dX0_countEnvious_24 rfl ?_
        refine g_ishr hX dX0_countEnvious_26 ?_
        refine g_iconst hX dX0_countEnvious_27 ic_1 ?_
        refine g_iand hX dX0_countEnvious_28 ?_
        refine g_iconst hX dX0_countEnvious_29 ic_1 ?_
        refine g_icmp_ne hX dX0_countEnvious_30 (fun h30 => ?_) (fun h30 => ?_)
        · refine g_aload_n hX dX0_countEnvious_33 rfl rfl ?_
          refine g_iload hX dX0_countEnvious_34 rfl ?_
          refine g_iload_n hX dX0_countEnvious_36 rfl rfl ?_
          refine g_callV hX (As := [.int s13_7, .int a3]) (fun r => (some (.int r))) (fun _ => c13_) (fun _ => mm) (fun _ => lm) (fun r hr => c_X3_isAhead hO hr) mi_X3_isAhead ml_0_131 (okO hO (by decide)) (e3_0 hO) rfl rfl rfl rfl rfl (Nat.le_of_ble_eq_true rfl) dX0_countEnvious_37 ?_
          intro x37 hx37
          refine g_if_eq hX dX0_countEnvious_40 (fun h40 => ?_) (fun h40 => ?_)
          · refine g_iinc hX dX0_countEnvious_90 ic_1 rfl (Nat.le_of_ble_eq_true rfl) rfl ?_
            refine g_goto hX dX0_countEnvious_93 ?_
            exact g_wk (lv0 := [some (.ref (ad Z C 0)), some (.ref (ad Z o 0)), some (.int a2), some (.int a3), some (.int a4), some (.int x2), some (.int s13_6), some (.int (s13_7 + 1))]) ⟨rfl, rfl, rfl, rfl, rfl, rfl, rfl, rfl, trivial⟩ (g_end (fun h => h))
          · refine g_aload_n hX dX0_countEnvious_43 rfl rfl ?_
            refine g_get hX fi_0_44 (okC hC (by decide)) (e0_0 hC) rfl dX0_countEnvious_44 ?_
            refine g_aload_n hX dX0_countEnvious_47 rfl rfl ?_
            refine g_bipush hX dX0_countEnvious_48 bp_48 ?_
            refine g_iload hX dX0_countEnvious_50 rfl ?_
            refine g_callV hX (As := [.int 48, .int s13_7]) (fun r => (some (.int r))) (fun _ => c13_) (fun _ => mm) (fun _ => lm) (fun r hr => c_X3_get hO hr) mi_X3_get ml_0_76 (okO hO (by decide)) (e3_0 hO) rfl rfl rfl rfl rfl (Nat.le_of_ble_eq_true rfl) dX0_countEnvious_52 ?_
            intro x52 hx52
            refine g_iconst hX dX0_countEnvious_55 ic_1 ?_
            refine g_callV hX (As := [.int x52, .int 1]) (fun _ => none) (fun r => r) (fun _ => mm) (fun _ => lm) (fun r hr => c_X5_add hC hr) mi_X5_add ml_0_121 (okC hC (by decide)) (e0_17 hC) rfl rfl rfl rfl rfl (Nat.le_of_ble_eq_true rfl) dX0_countEnvious_56 ?_
            intro r56 hr56
            refine g_aload_n hX dX0_countEnvious_59 rfl rfl ?_
            refine g_get hX fi_0_44 (okC hC (by decide)) (e0_0 hC) rfl dX0_countEnvious_60 ?_
            refine g_callV hX (As := []) (fun r => (some (.int r))) (fun _ => r56) (fun _ => mm) (fun _ => lm) (fun r hr => c_X5_fill hC hr) mi_X5_fill ml_0_119 (okC hC (by decide)) (e0_17 hC) rfl rfl rfl rfl rfl (Nat.le_of_ble_eq_true rfl) dX0_countEnvious_63 ?_
            intro x63 hx63
            refine g_iload hX dX0_countEnvious_66 rfl ?_
            refine g_bind (fun v : Int32 => J Z X 8 r56 mm lm 74 [some (.ref (ad Z C 0)), some (.ref (ad Z o 0)), some (.int a2), some (.int a3), some (.int a4), some (.int x2), some (.int v), some (.int s13_7)] []) ?_ ?_
            · refine g_icmp_lt hX dX0_countEnvious_68 (fun h68 => ?_) (fun h68 => ?_)
              · exact g_wk (lv0 := [some (.ref (ad Z C 0)), some (.ref (ad Z o 0)), some (.int a2), some (.int a3), some (.int a4), some (.int x2), some (.int s13_6), some (.int s13_7)]) ⟨rfl, rfl, rfl, rfl, rfl, rfl, rfl, rfl, trivial⟩ (g_end (fun h => h))
              · refine g_iinc hX dX0_countEnvious_71 ic_1 rfl (Nat.le_of_ble_eq_true rfl) rfl ?_
                exact g_wk (lv0 := [some (.ref (ad Z C 0)), some (.ref (ad Z o 0)), some (.int a2), some (.int a3), some (.int a4), some (.int x2), some (.int (s13_6 + 1)), some (.int s13_7)]) ⟨rfl, rfl, rfl, rfl, rfl, rfl, rfl, rfl, trivial⟩ (g_end (fun h => h))
            · intro j74_6
              show G _ _ (J Z X 8 r56 mm lm 74 [some (.ref (ad Z C 0)), some (.ref (ad Z o 0)), some (.int a2), some (.int a3), some (.int a4), some (.int x2), some (.int j74_6), some (.int s13_7)] [])
              refine g_aload_n hX dX0_countEnvious_74 rfl rfl ?_
              refine g_get hX fi_0_44 (okC hC (by decide)) (e0_0 hC) rfl dX0_countEnvious_75 ?_
              refine g_aload_n hX dX0_countEnvious_78 rfl rfl ?_
              refine g_bipush hX dX0_countEnvious_79 bp_48 ?_
              refine g_iload hX dX0_countEnvious_81 rfl ?_
              refine g_callV hX (As := [.int 48, .int s13_7]) (fun r => (some (.int r))) (fun _ => r56) (fun _ => mm) (fun _ => lm) (fun r hr => c_X3_get hO hr) mi_X3_get ml_0_76 (okO hO (by decide)) (e3_0 hO) rfl rfl rfl rfl rfl (Nat.le_of_ble_eq_true rfl) dX0_countEnvious_83 ?_
              intro x83 hx83
              refine g_iconst hX dX0_countEnvious_86 ic_m1 ?_
              refine g_callV hX (As := [.int x83, .int (-1)]) (fun _ => none) (fun r => r) (fun _ => mm) (fun _ => lm) (fun r hr => c_X5_add hC hr) mi_X5_add ml_0_121 (okC hC (by decide)) (e0_17 hC) rfl rfl rfl rfl rfl (Nat.le_of_ble_eq_true rfl) dX0_countEnvious_87 ?_
              intro r87 hr87
              refine g_iinc hX dX0_countEnvious_90 ic_1 rfl (Nat.le_of_ble_eq_true rfl) rfl ?_
              refine g_goto hX dX0_countEnvious_93 ?_
              exact g_wk (lv0 := [some (.ref (ad Z C 0)), some (.ref (ad Z o 0)), some (.int a2), some (.int a3), some (.int a4), some (.int x2), some (.int j74_6), some (.int (s13_7 + 1))]) ⟨rfl, rfl, rfl, rfl, rfl, rfl, rfl, rfl, trivial⟩ (g_end (fun h => h))
        · refine g_iinc hX dX0_countEnvious_90 ic_1 rfl (Nat.le_of_ble_eq_true rfl) rfl ?_
          refine g_goto hX dX0_countEnvious_93 ?_
          exact g_wk (lv0 := [some (.ref (ad Z C 0)), some (.ref (ad Z o 0)), some (.int a2), some (.int a3), some (.int a4), some (.int x2), some (.int s13_6), some (.int (s13_7 + 1))]) ⟨rfl, rfl, rfl, rfl, rfl, rfl, rfl, rfl, trivial⟩ (g_end (fun h => h))
    · rintro ⟨s13_6, s13_7, c13_⟩
      show G _ _ (J Z X 8 c13_ mm lm 96 [some (.ref (ad Z C 0)), some (.ref (ad Z o 0)), some (.int a2), some (.int a3), some (.int a4), some (.int x2), some (.int s13_6), some (.int s13_7)] [])
      refine g_iload hX dX0_countEnvious_96 rfl ?_
      exact g_iret hX (fun h => h) dX0_countEnvious_98
  exact g r h hF

def f_X0_countEnvy_B20 (C : Nat) (o : Nat) (a2 : Int32) (x10 : Int32) (s20_4 : Int32) (s20_5 : Int32) (c20_ : CM) : Option ((Int32 × Int32 × CM) ⊕ (Int32 × Int32 × CM)) :=
  if (c20_ C 0 10) ≤ s20_5 then
    some (.inl (s20_4, s20_5, c20_))
  else
    (f_X0_isTaken c20_ C s20_5 a2).bind fun x33 =>
    if x33 = 0 then
      some (.inr (s20_4, s20_5 + 1, c20_))
    else
      (f_X3_get c20_ o 48 s20_5).bind fun x48 =>
      (f_X5_add c20_ C x48 (-1)).bind fun r52 =>
      (f_X0_countEnvious r52 C o a2 s20_5 x10).bind fun r63 =>
      (f_X3_get r63.2 o 48 s20_5).bind fun x78 =>
      (f_X5_add r63.2 C x78 1).bind fun r82 =>
      some (.inr (s20_4 + r63.1, s20_5 + 1, r82))

def f_X0_countEnvy (cm : CM) (C o : Nat) (a2 : Int32) : Option (Int32 × CM) :=
  (f_X0_tallyTaken cm C o a2).bind fun r3 =>
  (f_X5_fill r3 C).bind fun x10 =>
  (itr (fun s : Int32 × Int32 × CM => f_X0_countEnvy_B20 C o a2 x10 s.1 s.2.1 s.2.2) 2000 (0, 0, r3)).bind fun (s20_4, s20_5, c20_) =>
  some (s20_4, c20_)

abbrev rm_X0_countEnvy : Room := { frames := 4, cells := 0, slots := 0, locals := 94 }
set_option maxHeartbeats 2000000 in
set_option maxRecDepth 20000 in
theorem c_X0_countEnvy {Z : ZC} {cm : CM} {mm : MM} {lm : LM} {C o : Nat} {a2 : Int32} {r : Int32 × CM} (hC : isCh C) (hO : isOf o) (h : f_X0_countEnvy cm C o a2 = some r) : Ct Z yX0_countEnvy cX0_countEnvy 6 (some .int) rm_X0_countEnvy [.ref (ad Z C 0), .ref (ad Z o 0), .int a2] cm mm lm (some (.int r.1)) r.2 mm lm := by
  refine Ct_of (own := RX0) [some (.ref (ad Z C 0)), some (.ref (ad Z o 0)), some (.int a2), none, none, none] ⟨by decide, rfl⟩ rfl (Nat.le_of_ble_eq_true rfl) rfl (fun X hX hF => ?_)
  have g : G (fun r : Int32 × CM => Fx Z X (some .int) (some (.int r.1)) r.2 mm lm) (f_X0_countEnvy cm C o a2) (J Z X 6 cm mm lm 0 [some (.ref (ad Z C 0)), some (.ref (ad Z o 0)), some (.int a2), none, none, none] []) := by
    unfold f_X0_countEnvy
    refine g_aload_n hX dX0_countEnvy_0 rfl rfl ?_
    refine g_aload_n hX dX0_countEnvy_1 rfl rfl ?_
    refine g_iload_n hX dX0_countEnvy_2 rfl rfl ?_
    refine g_callV hX (As := [.ref (ad Z o 0), .int a2]) (fun _ => none) (fun r => r) (fun _ => mm) (fun _ => lm) (fun r hr => c_X0_tallyTaken hC hO hr) mi_X0_tallyTaken ml_0_87 (okC hC (by decide)) (e0_0 hC) rfl rfl rfl rfl rfl (Nat.le_of_ble_eq_true rfl) dX0_countEnvy_3 ?_
    intro r3 hr3
    refine g_aload_n hX dX0_countEnvy_6 rfl rfl ?_
    refine g_get hX fi_0_44 (okC hC (by decide)) (e0_0 hC) rfl dX0_countEnvy_7 ?_
    refine g_callV hX (As := []) (fun r => (some (.int r))) (fun _ => r3) (fun _ => mm) (fun _ => lm) (fun r hr => c_X5_fill hC hr) mi_X5_fill ml_0_119 (okC hC (by decide)) (e0_17 hC) rfl rfl rfl rfl rfl (Nat.le_of_ble_eq_true rfl) dX0_countEnvy_10 ?_
    intro x10 hx10
    refine g_istore_n hX dX0_countEnvy_13 rfl (Nat.le_of_ble_eq_true rfl) rfl ?_
    refine g_iconst hX dX0_countEnvy_14 ic_0 ?_
    refine g_istore hX dX0_countEnvy_15 (Nat.le_of_ble_eq_true rfl) rfl ?_
    refine g_iconst hX dX0_countEnvy_17 ic_0 ?_
    refine g_istore hX dX0_countEnvy_18 (Nat.le_of_ble_eq_true rfl) rfl ?_
    refine g_loop (Hd := fun s : Int32 × Int32 × CM => J Z X 6 s.2.2 mm lm 20 [some (.ref (ad Z C 0)), some (.ref (ad Z o 0)), some (.int a2), some (.int x10), some (.int s.1), some (.int s.2.1)] []) (Ex := fun s : Int32 × Int32 × CM => J Z X 6 s.2.2 mm lm 91 [some (.ref (ad Z C 0)), some (.ref (ad Z o 0)), some (.int a2), some (.int x10), some (.int s.1), some (.int s.2.1)] []) ?_ ?_
    · rintro ⟨s20_4, s20_5, c20_⟩
      show G _ (f_X0_countEnvy_B20 C o a2 x10 s20_4 s20_5 c20_) (J Z X 6 c20_ mm lm 20 [some (.ref (ad Z C 0)), some (.ref (ad Z o 0)), some (.int a2), some (.int x10), some (.int s20_4), some (.int s20_5)] [])
      unfold f_X0_countEnvy_B20
      refine g_iload hX dX0_countEnvy_20 rfl ?_
      refine g_aload_n hX dX0_countEnvy_22 rfl rfl ?_
      refine g_get hX fi_0_52 (okC hC (by decide)) (e0_0 hC) rfl dX0_countEnvy_23 ?_
      refine g_icmp_ge hX dX0_countEnvy_26 (fun h26 => ?_) (fun h26 => ?_)
      · exact g_wk (lv0 := [some (.ref (ad Z C 0)), some (.ref (ad Z o 0)), some (.int a2), some (.int x10), some (.int s20_4), some (.int s20_5)]) ⟨rfl, rfl, rfl, rfl, rfl, rfl, trivial⟩ (g_end (fun h => h))
      · refine g_aload_n hX dX0_countEnvy_29 rfl rfl ?_
        refine g_iload hX dX0_countEnvy_30 rfl ?_
        refine g_iload_n hX dX0_countEnvy_32 rfl rfl ?_
        refine g_callV hX (As := [.int s20_5, .int a2]) (fun r => (some (.int r))) (fun _ => c20_) (fun _ => mm) (fun _ => lm) (fun r hr => c_X0_isTaken hC hr) mi_X0_isTaken ml_0_94 (okC hC (by decide)) (e0_0 hC) rfl rfl rfl rfl rfl (Nat.le_of_ble_eq_true rfl) dX0_countEnvy_33 ?_
        intro x33 hx33
        refine g_if_eq hX dX0_countEnvy_36 (fun h36 => ?_) (fun h36 => ?_)
        · refine g_iinc hX dX0_countEnvy_85 ic_1 rfl (Nat.le_of_ble_eq_true rfl) rfl ?_
          refine g_goto hX dX0_countEnvy_88 ?_
          exact g_wk (lv0 := [some (.ref (ad Z C 0)), some (.ref (ad Z o 0)), some (.int a2), some (.int x10), some (.int s20_4), some (.int (s20_5 + 1))]) ⟨rfl, rfl, rfl, rfl, rfl, rfl, trivial⟩ (g_end (fun h => h))
        · refine g_aload_n hX dX0_countEnvy_39 rfl rfl ?_
          refine g_get hX fi_0_44 (okC hC (by decide)) (e0_0 hC) rfl dX0_countEnvy_40 ?_
          refine g_aload_n hX dX0_countEnvy_43 rfl rfl ?_
          refine g_bipush hX dX0_countEnvy_44 bp_48 ?_
          refine g_iload hX dX0_countEnvy_46 rfl ?_
          refine g_callV hX (As := [.int 48, .int s20_5]) (fun r => (some (.int r))) (fun _ => c20_) (fun _ => mm) (fun _ => lm) (fun r hr => c_X3_get hO hr) mi_X3_get ml_0_76 (okO hO (by decide)) (e3_0 hO) rfl rfl rfl rfl rfl (Nat.le_of_ble_eq_true rfl) dX0_countEnvy_48 ?_
          intro x48 hx48
          refine g_iconst hX dX0_countEnvy_51 ic_m1 ?_
          refine g_callV hX (As := [.int x48, .int (-1)]) (fun _ => none) (fun r => r) (fun _ => mm) (fun _ => lm) (fun r hr => c_X5_add hC hr) mi_X5_add ml_0_121 (okC hC (by decide)) (e0_17 hC) rfl rfl rfl rfl rfl (Nat.le_of_ble_eq_true rfl) dX0_countEnvy_52 ?_
          intro r52 hr52
          refine g_iload hX dX0_countEnvy_55 rfl ?_
          refine g_aload_n hX dX0_countEnvy_57 rfl rfl ?_
          refine g_aload_n hX dX0_countEnvy_58 rfl rfl ?_
          refine g_iload_n hX dX0_countEnvy_59 rfl rfl ?_
          refine g_iload hX dX0_countEnvy_60 rfl ?_
          refine g_iload_n hX dX0_countEnvy_62 rfl rfl ?_
          refine g_callV hX (As := [.ref (ad Z o 0), .int a2, .int s20_5, .int x10]) (fun r => (some (.int r.1))) (fun r => r.2) (fun _ => mm) (fun _ => lm) (fun r hr => c_X0_countEnvious hC hO hr) mi_X0_countEnvious ml_0_124 (okC hC (by decide)) (e0_0 hC) rfl rfl rfl rfl rfl (Nat.le_of_ble_eq_true rfl) dX0_countEnvy_63 ?_
          intro r63 hr63
          refine g_iadd hX dX0_countEnvy_66 ?_
          refine g_istore hX dX0_countEnvy_67 (Nat.le_of_ble_eq_true rfl) rfl ?_
          refine g_aload_n hX dX0_countEnvy_69 rfl rfl ?_
          refine g_get hX fi_0_44 (okC hC (by decide)) (e0_0 hC) rfl dX0_countEnvy_70 ?_
          refine g_aload_n hX dX0_countEnvy_73 rfl rfl ?_
          refine g_bipush hX dX0_countEnvy_74 bp_48 ?_
          refine g_iload hX dX0_countEnvy_76 rfl ?_
          refine g_callV hX (As := [.int 48, .int s20_5]) (fun r => (some (.int r))) (fun _ => r63.2) (fun _ => mm) (fun _ => lm) (fun r hr => c_X3_get hO hr) mi_X3_get ml_0_76 (okO hO (by decide)) (e3_0 hO) rfl rfl rfl rfl rfl (Nat.le_of_ble_eq_true rfl) dX0_countEnvy_78 ?_
          intro x78 hx78
          refine g_iconst hX dX0_countEnvy_81 ic_1 ?_
          refine g_callV hX (As := [.int x78, .int 1]) (fun _ => none) (fun r => r) (fun _ => mm) (fun _ => lm) (fun r hr => c_X5_add hC hr) mi_X5_add ml_0_121 (okC hC (by decide)) (e0_17 hC) rfl rfl rfl rfl rfl (Nat.le_of_ble_eq_true rfl) dX0_countEnvy_82 ?_
          intro r82 hr82
          refine g_iinc hX dX0_countEnvy_85 ic_1 rfl (Nat.le_of_ble_eq_true rfl) rfl ?_
          refine g_goto hX dX0_countEnvy_88 ?_
          exact g_wk (lv0 := [some (.ref (ad Z C 0)), some (.ref (ad Z o 0)), some (.int a2), some (.int x10), some (.int (s20_4 + r63.1)), some (.int (s20_5 + 1))]) ⟨rfl, rfl, rfl, rfl, rfl, rfl, trivial⟩ (g_end (fun h => h))
    · rintro ⟨s20_4, s20_5, c20_⟩
      show G _ _ (J Z X 6 c20_ mm lm 91 [some (.ref (ad Z C 0)), some (.ref (ad Z o 0)), some (.int a2), some (.int x10), some (.int s20_4), some (.int s20_5)] [])
      refine g_iload hX dX0_countEnvy_91 rfl ?_
      exact g_iret hX (fun h => h) dX0_countEnvy_93
  exact g r h hF

def f_X0_rankAll_B19 (C : Nat) (x12 : Int32) (s19_4 : Int32) (c19_ : CM) : Option ((Int32 × CM) ⊕ (Int32 × CM)) :=
  if s19_4 ≤ 0 then
    some (.inl (s19_4, c19_))
  else
    (f_X4_get c19_ C 1 16 (s19_4 - 1)).bind fun x32 =>
    if x32 ≤ x12 then
      some (.inl (s19_4, c19_))
    else
      (f_X4_get c19_ C 1 16 (s19_4 - 1)).bind fun x53 =>
      (f_X4_set c19_ C 1 16 s19_4 x53).bind fun r56 =>
      some (.inr (s19_4 + (-1), r56))

def f_X0_rankAll_B2 (C : Nat) (o : Nat) (s2_2 : Int32) (c2_ : CM) : Option ((Int32 × CM) ⊕ (Int32 × CM)) :=
  if (c2_ C 0 10) ≤ s2_2 then
    some (.inl (s2_2, c2_))
  else
    (f_X3_rankKey c2_ o s2_2).bind fun x12 =>
    (itr (fun s : Int32 × CM => f_X0_rankAll_B19 C x12 s.1 s.2) 2000 (s2_2, c2_)).bind fun (s19_4, c19_) =>
    (f_X4_set c19_ C 1 16 s19_4 x12).bind fun r72 =>
    some (.inr (s2_2 + 1, r72))

def f_X0_rankAll (cm : CM) (C o : Nat) : Option (CM) :=
  (itr (fun s : Int32 × CM => f_X0_rankAll_B2 C o s.1 s.2) 2000 (0, cm)).bind fun (s2_2, c2_) =>
  some c2_

abbrev rm_X0_rankAll : Room := { frames := 2, cells := 0, slots := 0, locals := 45 }
set_option maxHeartbeats 2000000 in
set_option maxRecDepth 20000 in
theorem c_X0_rankAll {Z : ZC} {cm : CM} {mm : MM} {lm : LM} {C o : Nat} {r : CM} (hC : isCh C) (hO : isOf o) (h : f_X0_rankAll cm C o = some r) : Ct Z yX0_rankAll cX0_rankAll 5 none rm_X0_rankAll [.ref (ad Z C 0), .ref (ad Z o 0)] cm mm lm none r mm lm := by
  refine Ct_of (own := RX0) [some (.ref (ad Z C 0)), some (.ref (ad Z o 0)), none, none, none] ⟨by decide, rfl⟩ rfl (Nat.le_of_ble_eq_true rfl) rfl (fun X hX hF => ?_)
  have g : G (fun r : CM => Fx Z X none none r mm lm) (f_X0_rankAll cm C o) (J Z X 5 cm mm lm 0 [some (.ref (ad Z C 0)), some (.ref (ad Z o 0)), none, none, none] []) := by
    unfold f_X0_rankAll
    refine g_iconst hX dX0_rankAll_0 ic_0 ?_
    refine g_istore_n hX dX0_rankAll_1 rfl (Nat.le_of_ble_eq_true rfl) rfl ?_
    refine g_loop (Hd := fun s : Int32 × CM => J Z X 5 s.2 mm lm 2 [some (.ref (ad Z C 0)), some (.ref (ad Z o 0)), some (.int s.1), none, none] []) (Ex := fun s : Int32 × CM => J Z X 5 s.2 mm lm 81 [some (.ref (ad Z C 0)), some (.ref (ad Z o 0)), some (.int s.1), none, none] []) ?_ ?_
    · rintro ⟨s2_2, c2_⟩
      show G _ (f_X0_rankAll_B2 C o s2_2 c2_) (J Z X 5 c2_ mm lm 2 [some (.ref (ad Z C 0)), some (.ref (ad Z o 0)), some (.int s2_2), none, none] [])
      unfold f_X0_rankAll_B2
      refine g_iload_n hX dX0_rankAll_2 rfl rfl ?_
      refine g_aload_n hX dX0_rankAll_3 rfl rfl ?_
      refine g_get hX fi_0_52 (okC hC (by decide)) (e0_0 hC) rfl dX0_rankAll_4 ?_
      refine g_icmp_ge hX dX0_rankAll_7 (fun h7 => ?_) (fun h7 => ?_)
      · exact g_wk (lv0 := [some (.ref (ad Z C 0)), some (.ref (ad Z o 0)), some (.int s2_2), none, none]) ⟨rfl, rfl, rfl, trivial⟩ (g_end (fun h => h))
      · refine g_aload_n hX dX0_rankAll_10 rfl rfl ?_
        refine g_iload_n hX dX0_rankAll_11 rfl rfl ?_
        refine g_callV hX (As := [.int s2_2]) (fun r => (some (.int r))) (fun _ => c2_) (fun _ => mm) (fun _ => lm) (fun r hr => c_X3_rankKey hO hr) mi_X3_rankKey ml_0_138 (okO hO (by decide)) (e3_0 hO) rfl rfl rfl rfl rfl (Nat.le_of_ble_eq_true rfl) dX0_rankAll_12 ?_
        intro x12 hx12
        refine g_istore_n hX dX0_rankAll_15 rfl (Nat.le_of_ble_eq_true rfl) rfl ?_
        refine g_iload_n hX dX0_rankAll_16 rfl rfl ?_
        refine g_istore hX dX0_rankAll_17 (Nat.le_of_ble_eq_true rfl) rfl ?_
        refine g_loop (Hd := fun s : Int32 × CM => J Z X 5 s.2 mm lm 19 [some (.ref (ad Z C 0)), some (.ref (ad Z o 0)), some (.int s2_2), some (.int x12), some (.int s.1)] []) (Ex := fun s : Int32 × CM => J Z X 5 s.2 mm lm 65 [some (.ref (ad Z C 0)), some (.ref (ad Z o 0)), some (.int s2_2), some (.int x12), some (.int s.1)] []) ?_ ?_
        · rintro ⟨s19_4, c19_⟩
          show G _ (f_X0_rankAll_B19 C x12 s19_4 c19_) (J Z X 5 c19_ mm lm 19 [some (.ref (ad Z C 0)), some (.ref (ad Z o 0)), some (.int s2_2), some (.int x12), some (.int s19_4)] [])
          unfold f_X0_rankAll_B19
          refine g_iload hX dX0_rankAll_19 rfl ?_
          refine g_if_le hX dX0_rankAll_21 (fun h21 => ?_) (fun h21 => ?_)
          · exact g_wk (lv0 := [some (.ref (ad Z C 0)), some (.ref (ad Z o 0)), some (.int s2_2), some (.int x12), some (.int s19_4)]) ⟨rfl, rfl, rfl, rfl, rfl, trivial⟩ (g_end (fun h => h))
          · refine g_aload_n hX dX0_rankAll_24 rfl rfl ?_
            refine g_get hX fi_0_14 (okC hC (by decide)) (e0_0 hC) rfl dX0_rankAll_25 ?_
            refine g_iload hX dX0_rankAll_28 rfl ?_
            refine g_iconst hX dX0_rankAll_30 ic_1 ?_
            refine g_isub hX dX0_rankAll_31 ?_
            refine g_callV hX (As := [.int (s19_4 - 1)]) (fun r => (some (.int r))) (fun _ => c19_) (fun _ => mm) (fun _ => lm) (fun r hr => c_X4_get (rw0_1 hC) hr) mi_X4_get ml_0_105 (rw0_1 hC).1 (eR_0 (rw0_1 hC)) rfl rfl rfl rfl rfl (Nat.le_of_ble_eq_true rfl) dX0_rankAll_32 ?_
            intro x32 hx32
            refine g_iload_n hX dX0_rankAll_35 rfl rfl ?_
            refine g_icmp_le hX dX0_rankAll_36 (fun h36 => ?_) (fun h36 => ?_)
            · exact g_wk (lv0 := [some (.ref (ad Z C 0)), some (.ref (ad Z o 0)), some (.int s2_2), some (.int x12), some (.int s19_4)]) ⟨rfl, rfl, rfl, rfl, rfl, trivial⟩ (g_end (fun h => h))
            · refine g_aload_n hX dX0_rankAll_39 rfl rfl ?_
              refine g_get hX fi_0_14 (okC hC (by decide)) (e0_0 hC) rfl dX0_rankAll_40 ?_
              refine g_iload hX dX0_rankAll_43 rfl ?_
              refine g_aload_n hX dX0_rankAll_45 rfl rfl ?_
              refine g_get hX fi_0_14 (okC hC (by decide)) (e0_0 hC) rfl dX0_rankAll_46 ?_
              refine g_iload hX dX0_rankAll_49 rfl ?_
              refine g_iconst hX dX0_rankAll_51 ic_1 ?_
              refine g_isub hX dX0_rankAll_52 ?_
              refine g_callV hX (As := [.int (s19_4 - 1)]) (fun r => (some (.int r))) (fun _ => c19_) (fun _ => mm) (fun _ => lm) (fun r hr => c_X4_get (rw0_1 hC) hr) mi_X4_get ml_0_105 (rw0_1 hC).1 (eR_0 (rw0_1 hC)) rfl rfl rfl rfl rfl (Nat.le_of_ble_eq_true rfl) dX0_rankAll_53 ?_
              intro x53 hx53
              refine g_callV hX (As := [.int s19_4, .int x53]) (fun _ => none) (fun r => r) (fun _ => mm) (fun _ => lm) (fun r hr => c_X4_set (rw0_1 hC) hr) mi_X4_set ml_0_101 (rw0_1 hC).1 (eR_0 (rw0_1 hC)) rfl rfl rfl rfl rfl (Nat.le_of_ble_eq_true rfl) dX0_rankAll_56 ?_
              intro r56 hr56
              refine g_iinc hX dX0_rankAll_59 ic_m1 rfl (Nat.le_of_ble_eq_true rfl) rfl ?_
              refine g_goto hX dX0_rankAll_62 ?_
              exact g_wk (lv0 := [some (.ref (ad Z C 0)), some (.ref (ad Z o 0)), some (.int s2_2), some (.int x12), some (.int (s19_4 + (-1)))]) ⟨rfl, rfl, rfl, rfl, rfl, trivial⟩ (g_end (fun h => h))
        · rintro ⟨s19_4, c19_⟩
          show G _ _ (J Z X 5 c19_ mm lm 65 [some (.ref (ad Z C 0)), some (.ref (ad Z o 0)), some (.int s2_2), some (.int x12), some (.int s19_4)] [])
          refine g_aload_n hX dX0_rankAll_65 rfl rfl ?_
          refine g_get hX fi_0_14 (okC hC (by decide)) (e0_0 hC) rfl dX0_rankAll_66 ?_
          refine g_iload hX dX0_rankAll_69 rfl ?_
          refine g_iload_n hX dX0_rankAll_71 rfl rfl ?_
          refine g_callV hX (As := [.int s19_4, .int x12]) (fun _ => none) (fun r => r) (fun _ => mm) (fun _ => lm) (fun r hr => c_X4_set (rw0_1 hC) hr) mi_X4_set ml_0_101 (rw0_1 hC).1 (eR_0 (rw0_1 hC)) rfl rfl rfl rfl rfl (Nat.le_of_ble_eq_true rfl) dX0_rankAll_72 ?_
          intro r72 hr72
          refine g_iinc hX dX0_rankAll_75 ic_1 rfl (Nat.le_of_ble_eq_true rfl) rfl ?_
          refine g_goto hX dX0_rankAll_78 ?_
          exact g_wk (lv0 := [some (.ref (ad Z C 0)), some (.ref (ad Z o 0)), some (.int (s2_2 + 1)), none, none]) ⟨rfl, rfl, rfl, trivial⟩ (g_end (fun h => h))
    · rintro ⟨s2_2, c2_⟩
      show G _ _ (J Z X 5 c2_ mm lm 81 [some (.ref (ad Z C 0)), some (.ref (ad Z o 0)), some (.int s2_2), none, none] [])
      exact g_vret hX (fun h => h) dX0_rankAll_81
  exact g r h hF

def f_X0_occupy (cm : CM) (C : Nat) (a1 a2 : Int32) : Option (CM) :=
  (f_X4_get cm C 3 4 a1).bind fun x11 =>
  (f_X4_set cm C 3 4 a1 (if 0 < (x11 - 1) then (x11 - 1) else 0)).bind fun r19 =>
  (f_X6_isGroup a2).bind fun x23 =>
  if x23 = 0 then
    some r19
  else
    (f_X4_get r19 C 5 16 ((a1 * 4) + a2)).bind fun x46 =>
    (f_X4_set r19 C 5 16 ((a1 * 4) + a2) (if 0 < (x46 - 1) then (x46 - 1) else 0)).bind fun r54 =>
    some r54

abbrev rm_X0_occupy : Room := { frames := 2, cells := 0, slots := 0, locals := 41 }
set_option maxHeartbeats 2000000 in
set_option maxRecDepth 20000 in
theorem c_X0_occupy {Z : ZC} {cm : CM} {mm : MM} {lm : LM} {C : Nat} {a1 a2 : Int32} {r : CM} (hC : isCh C) (h : f_X0_occupy cm C a1 a2 = some r) : Ct Z yX0_occupy cX0_occupy 4 none rm_X0_occupy [.ref (ad Z C 0), .int a1, .int a2] cm mm lm none r mm lm := by
  refine Ct_of (own := RX0) [some (.ref (ad Z C 0)), some (.int a1), some (.int a2), none] ⟨by decide, rfl⟩ rfl (Nat.le_of_ble_eq_true rfl) rfl (fun X hX hF => ?_)
  have g : G (fun r : CM => Fx Z X none none r mm lm) (f_X0_occupy cm C a1 a2) (J Z X 4 cm mm lm 0 [some (.ref (ad Z C 0)), some (.int a1), some (.int a2), none] []) := by
    unfold f_X0_occupy
    refine g_aload_n hX dX0_occupy_0 rfl rfl ?_
    refine g_get hX fi_0_20 (okC hC (by decide)) (e0_0 hC) rfl dX0_occupy_1 ?_
    refine g_iload_n hX dX0_occupy_4 rfl rfl ?_
    refine g_iconst hX dX0_occupy_5 ic_0 ?_
    refine g_aload_n hX dX0_occupy_6 rfl rfl ?_
    refine g_get hX fi_0_20 (okC hC (by decide)) (e0_0 hC) rfl dX0_occupy_7 ?_
    refine g_iload_n hX dX0_occupy_10 rfl rfl ?_
    refine g_callV hX (As := [.int a1]) (fun r => (some (.int r))) (fun _ => cm) (fun _ => mm) (fun _ => lm) (fun r hr => c_X4_get (rw0_3 hC) hr) mi_X4_get ml_0_105 (rw0_3 hC).1 (eR_0 (rw0_3 hC)) rfl rfl rfl rfl rfl (Nat.le_of_ble_eq_true rfl) dX0_occupy_11 ?_
    intro x11 hx11
    refine g_iconst hX dX0_occupy_14 ic_1 ?_
    refine g_isub hX dX0_occupy_15 ?_
    refine g_max hX dX0_occupy_16 mm_0_144 mm_max_2 mm_3 mm_max_4 rfl rfl (Nat.le_of_ble_eq_true rfl) ?_
    refine g_callV hX (As := [.int a1, .int (if 0 < (x11 - 1) then (x11 - 1) else 0)]) (fun _ => none) (fun r => r) (fun _ => mm) (fun _ => lm) (fun r hr => c_X4_set (rw0_3 hC) hr) mi_X4_set ml_0_101 (rw0_3 hC).1 (eR_0 (rw0_3 hC)) rfl rfl rfl rfl rfl (Nat.le_of_ble_eq_true rfl) dX0_occupy_19 ?_
    intro r19 hr19
    refine g_iload_n hX dX0_occupy_22 rfl rfl ?_
    refine g_callSN hX (As := [.int a2]) (fun r => (some (.int r))) (fun _ => r19) (fun _ => mm) (fun _ => lm) (fun r hr => c_X6_isGroup  hr) mi_X6_isGroup (fun _ h => h.1) rfl rfl rfl (Nat.le_of_ble_eq_true rfl) dX0_occupy_23 ?_
    intro x23 hx23
    refine g_if_eq hX dX0_occupy_26 (fun h26 => ?_) (fun h26 => ?_)
    · exact g_vret hX (fun h => h) dX0_occupy_57
    · refine g_iload_n hX dX0_occupy_29 rfl rfl ?_
      refine g_iconst hX dX0_occupy_30 ic_4 ?_
      refine g_imul hX dX0_occupy_31 ?_
      refine g_iload_n hX dX0_occupy_32 rfl rfl ?_
      refine g_iadd hX dX0_occupy_33 ?_
      refine g_istore_n hX dX0_occupy_34 rfl (Nat.le_of_ble_eq_true rfl) rfl ?_
      refine g_aload_n hX dX0_occupy_35 rfl rfl ?_
      refine g_get hX fi_0_23 (okC hC (by decide)) (e0_0 hC) rfl dX0_occupy_36 ?_
      refine g_iload_n hX dX0_occupy_39 rfl rfl ?_
      refine g_iconst hX dX0_occupy_40 ic_0 ?_
      refine g_aload_n hX dX0_occupy_41 rfl rfl ?_
      refine g_get hX fi_0_23 (okC hC (by decide)) (e0_0 hC) rfl dX0_occupy_42 ?_
      refine g_iload_n hX dX0_occupy_45 rfl rfl ?_
      refine g_callV hX (As := [.int ((a1 * 4) + a2)]) (fun r => (some (.int r))) (fun _ => r19) (fun _ => mm) (fun _ => lm) (fun r hr => c_X4_get (rw0_5 hC) hr) mi_X4_get ml_0_105 (rw0_5 hC).1 (eR_0 (rw0_5 hC)) rfl rfl rfl rfl rfl (Nat.le_of_ble_eq_true rfl) dX0_occupy_46 ?_
      intro x46 hx46
      refine g_iconst hX dX0_occupy_49 ic_1 ?_
      refine g_isub hX dX0_occupy_50 ?_
      refine g_max hX dX0_occupy_51 mm_0_144 mm_max_2 mm_3 mm_max_4 rfl rfl (Nat.le_of_ble_eq_true rfl) ?_
      refine g_callV hX (As := [.int ((a1 * 4) + a2), .int (if 0 < (x46 - 1) then (x46 - 1) else 0)]) (fun _ => none) (fun r => r) (fun _ => mm) (fun _ => lm) (fun r hr => c_X4_set (rw0_5 hC) hr) mi_X4_set ml_0_101 (rw0_5 hC).1 (eR_0 (rw0_5 hC)) rfl rfl rfl rfl rfl (Nat.le_of_ble_eq_true rfl) dX0_occupy_54 ?_
      intro r54 hr54
      exact g_vret hX (fun h => h) dX0_occupy_57
  exact g r h hF

def f_X0_findFree_B2 (C : Nat) (o : Nat) (s2_2 : Int32) (c2_ : CM) : Option ((Int32 × CM) ⊕ (Int32 × CM)) :=
  if 4 ≤ s2_2 then
    some (.inl (s2_2, c2_))
  else
    (f_X3_get c2_ o 128 s2_2).bind fun x17 =>
    (f_X4_set c2_ C 3 4 s2_2 x17).bind fun r20 =>
    some (.inr (s2_2 + 1, r20))

def f_X0_findFree_B31 (C : Nat) (o : Nat) (s31_2 : Int32) (c31_ : CM) : Option ((Int32 × CM) ⊕ (Int32 × CM)) :=
  if 16 ≤ s31_2 then
    some (.inl (s31_2, c31_))
  else
    (f_X3_get c31_ o 132 s31_2).bind fun x47 =>
    (f_X4_set c31_ C 5 16 s31_2 x47).bind fun r50 =>
    some (.inr (s31_2 + 1, r50))

def f_X0_findFree_B61 (C : Nat) (o : Nat) (s61_2 : Int32) (c61_ : CM) : Option ((Int32 × CM) ⊕ (Int32 × CM)) :=
  if (c61_ C 0 10) ≤ s61_2 then
    some (.inl (s61_2, c61_))
  else
    (f_X3_get c61_ o 64 s61_2).bind fun x73 =>
    if x73 = 3 then
      (f_X3_get c61_ o 80 s61_2).bind fun x85 =>
      (f_X3_get c61_ o 96 s61_2).bind fun x92 =>
      (f_X0_occupy c61_ C x85 x92).bind fun r95 =>
      some (.inr (s61_2 + 1, r95))
    else
      some (.inr (s61_2 + 1, c61_))

def f_X0_findFree (cm : CM) (C o : Nat) : Option (CM) :=
  (itr (fun s : Int32 × CM => f_X0_findFree_B2 C o s.1 s.2) 2000 (0, cm)).bind fun (s2_2, c2_) =>
  (itr (fun s : Int32 × CM => f_X0_findFree_B31 C o s.1 s.2) 2000 (0, c2_)).bind fun (s31_2, c31_) =>
  (itr (fun s : Int32 × CM => f_X0_findFree_B61 C o s.1 s.2) 2000 (0, c31_)).bind fun (s61_2, c61_) =>
  some c61_

abbrev rm_X0_findFree : Room := { frames := 3, cells := 0, slots := 0, locals := 64 }
set_option maxHeartbeats 2000000 in
set_option maxRecDepth 20000 in
theorem c_X0_findFree {Z : ZC} {cm : CM} {mm : MM} {lm : LM} {C o : Nat} {r : CM} (hC : isCh C) (hO : isOf o) (h : f_X0_findFree cm C o = some r) : Ct Z yX0_findFree cX0_findFree 3 none rm_X0_findFree [.ref (ad Z C 0), .ref (ad Z o 0)] cm mm lm none r mm lm := by
  refine Ct_of (own := RX0) [some (.ref (ad Z C 0)), some (.ref (ad Z o 0)), none] ⟨by decide, rfl⟩ rfl (Nat.le_of_ble_eq_true rfl) rfl (fun X hX hF => ?_)
  have g : G (fun r : CM => Fx Z X none none r mm lm) (f_X0_findFree cm C o) (J Z X 3 cm mm lm 0 [some (.ref (ad Z C 0)), some (.ref (ad Z o 0)), none] []) := by
    unfold f_X0_findFree
    refine g_iconst hX dX0_findFree_0 ic_0 ?_
    refine g_istore_n hX dX0_findFree_1 rfl (Nat.le_of_ble_eq_true rfl) rfl ?_
    refine g_loop (Hd := fun s : Int32 × CM => J Z X 3 s.2 mm lm 2 [some (.ref (ad Z C 0)), some (.ref (ad Z o 0)), some (.int s.1)] []) (Ex := fun s : Int32 × CM => J Z X 3 s.2 mm lm 29 [some (.ref (ad Z C 0)), some (.ref (ad Z o 0)), some (.int s.1)] []) ?_ ?_
    · rintro ⟨s2_2, c2_⟩
      show G _ (f_X0_findFree_B2 C o s2_2 c2_) (J Z X 3 c2_ mm lm 2 [some (.ref (ad Z C 0)), some (.ref (ad Z o 0)), some (.int s2_2)] [])
      unfold f_X0_findFree_B2
      refine g_iload_n hX dX0_findFree_2 rfl rfl ?_
      refine g_iconst hX dX0_findFree_3 ic_4 ?_
      refine g_icmp_ge hX dX0_findFree_4 (fun h4 => ?_) (fun h4 => ?_)
      · exact g_wk (lv0 := [some (.ref (ad Z C 0)), some (.ref (ad Z o 0)), some (.int s2_2)]) ⟨rfl, rfl, rfl, trivial⟩ (g_end (fun h => h))
      · refine g_aload_n hX dX0_findFree_7 rfl rfl ?_
        refine g_get hX fi_0_20 (okC hC (by decide)) (e0_0 hC) rfl dX0_findFree_8 ?_
        refine g_iload_n hX dX0_findFree_11 rfl rfl ?_
        refine g_aload_n hX dX0_findFree_12 rfl rfl ?_
        refine g_sipush hX dX0_findFree_13 sp_128 ?_
        refine g_iload_n hX dX0_findFree_16 rfl rfl ?_
        refine g_callV hX (As := [.int 128, .int s2_2]) (fun r => (some (.int r))) (fun _ => c2_) (fun _ => mm) (fun _ => lm) (fun r hr => c_X3_get hO hr) mi_X3_get ml_0_76 (okO hO (by decide)) (e3_0 hO) rfl rfl rfl rfl rfl (Nat.le_of_ble_eq_true rfl) dX0_findFree_17 ?_
        intro x17 hx17
        refine g_callV hX (As := [.int s2_2, .int x17]) (fun _ => none) (fun r => r) (fun _ => mm) (fun _ => lm) (fun r hr => c_X4_set (rw0_3 hC) hr) mi_X4_set ml_0_101 (rw0_3 hC).1 (eR_0 (rw0_3 hC)) rfl rfl rfl rfl rfl (Nat.le_of_ble_eq_true rfl) dX0_findFree_20 ?_
        intro r20 hr20
        refine g_iinc hX dX0_findFree_23 ic_1 rfl (Nat.le_of_ble_eq_true rfl) rfl ?_
        refine g_goto hX dX0_findFree_26 ?_
        exact g_wk (lv0 := [some (.ref (ad Z C 0)), some (.ref (ad Z o 0)), some (.int (s2_2 + 1))]) ⟨rfl, rfl, rfl, trivial⟩ (g_end (fun h => h))
    · rintro ⟨s2_2, c2_⟩
      show G _ _ (J Z X 3 c2_ mm lm 29 [some (.ref (ad Z C 0)), some (.ref (ad Z o 0)), some (.int s2_2)] [])
      refine g_iconst hX dX0_findFree_29 ic_0 ?_
      refine g_istore_n hX dX0_findFree_30 rfl (Nat.le_of_ble_eq_true rfl) rfl ?_
      refine g_loop (Hd := fun s : Int32 × CM => J Z X 3 s.2 mm lm 31 [some (.ref (ad Z C 0)), some (.ref (ad Z o 0)), some (.int s.1)] []) (Ex := fun s : Int32 × CM => J Z X 3 s.2 mm lm 59 [some (.ref (ad Z C 0)), some (.ref (ad Z o 0)), some (.int s.1)] []) ?_ ?_
      · rintro ⟨s31_2, c31_⟩
        show G _ (f_X0_findFree_B31 C o s31_2 c31_) (J Z X 3 c31_ mm lm 31 [some (.ref (ad Z C 0)), some (.ref (ad Z o 0)), some (.int s31_2)] [])
        unfold f_X0_findFree_B31
        refine g_iload_n hX dX0_findFree_31 rfl rfl ?_
        refine g_bipush hX dX0_findFree_32 bp_16 ?_
        refine g_icmp_ge hX dX0_findFree_34 (fun h34 => ?_) (fun h34 => ?_)
        · exact g_wk (lv0 := [some (.ref (ad Z C 0)), some (.ref (ad Z o 0)), some (.int s31_2)]) ⟨rfl, rfl, rfl, trivial⟩ (g_end (fun h => h))
        · refine g_aload_n hX dX0_findFree_37 rfl rfl ?_
          refine g_get hX fi_0_23 (okC hC (by decide)) (e0_0 hC) rfl dX0_findFree_38 ?_
          refine g_iload_n hX dX0_findFree_41 rfl rfl ?_
          refine g_aload_n hX dX0_findFree_42 rfl rfl ?_
          refine g_sipush hX dX0_findFree_43 sp_132 ?_
          refine g_iload_n hX dX0_findFree_46 rfl rfl ?_
          refine g_callV hX (As := [.int 132, .int s31_2]) (fun r => (some (.int r))) (fun _ => c31_) (fun _ => mm) (fun _ => lm) (fun r hr => c_X3_get hO hr) mi_X3_get ml_0_76 (okO hO (by decide)) (e3_0 hO) rfl rfl rfl rfl rfl (Nat.le_of_ble_eq_true rfl) dX0_findFree_47 ?_
          intro x47 hx47
          refine g_callV hX (As := [.int s31_2, .int x47]) (fun _ => none) (fun r => r) (fun _ => mm) (fun _ => lm) (fun r hr => c_X4_set (rw0_5 hC) hr) mi_X4_set ml_0_101 (rw0_5 hC).1 (eR_0 (rw0_5 hC)) rfl rfl rfl rfl rfl (Nat.le_of_ble_eq_true rfl) dX0_findFree_50 ?_
          intro r50 hr50
          refine g_iinc hX dX0_findFree_53 ic_1 rfl (Nat.le_of_ble_eq_true rfl) rfl ?_
          refine g_goto hX dX0_findFree_56 ?_
          exact g_wk (lv0 := [some (.ref (ad Z C 0)), some (.ref (ad Z o 0)), some (.int (s31_2 + 1))]) ⟨rfl, rfl, rfl, trivial⟩ (g_end (fun h => h))
      · rintro ⟨s31_2, c31_⟩
        show G _ _ (J Z X 3 c31_ mm lm 59 [some (.ref (ad Z C 0)), some (.ref (ad Z o 0)), some (.int s31_2)] [])
        refine g_iconst hX dX0_findFree_59 ic_0 ?_
        refine g_istore_n hX dX0_findFree_60 rfl (Nat.le_of_ble_eq_true rfl) rfl ?_
        refine g_loop (Hd := fun s : Int32 × CM => J Z X 3 s.2 mm lm 61 [some (.ref (ad Z C 0)), some (.ref (ad Z o 0)), some (.int s.1)] []) (Ex := fun s : Int32 × CM => J Z X 3 s.2 mm lm 104 [some (.ref (ad Z C 0)), some (.ref (ad Z o 0)), some (.int s.1)] []) ?_ ?_
        · rintro ⟨s61_2, c61_⟩
          show G _ (f_X0_findFree_B61 C o s61_2 c61_) (J Z X 3 c61_ mm lm 61 [some (.ref (ad Z C 0)), some (.ref (ad Z o 0)), some (.int s61_2)] [])
          unfold f_X0_findFree_B61
          refine g_iload_n hX dX0_findFree_61 rfl rfl ?_
          refine g_aload_n hX dX0_findFree_62 rfl rfl ?_
          refine g_get hX fi_0_52 (okC hC (by decide)) (e0_0 hC) rfl dX0_findFree_63 ?_
          refine g_icmp_ge hX dX0_findFree_66 (fun h66 => ?_) (fun h66 => ?_)
          · exact g_wk (lv0 := [some (.ref (ad Z C 0)), some (.ref (ad Z o 0)), some (.int s61_2)]) ⟨rfl, rfl, rfl, trivial⟩ (g_end (fun h => h))
          · refine g_aload_n hX dX0_findFree_69 rfl rfl ?_
            refine g_bipush hX dX0_findFree_70 bp_64 ?_
            refine g_iload_n hX dX0_findFree_72 rfl rfl ?_
            refine g_callV hX (As := [.int 64, .int s61_2]) (fun r => (some (.int r))) (fun _ => c61_) (fun _ => mm) (fun _ => lm) (fun r hr => c_X3_get hO hr) mi_X3_get ml_0_76 (okO hO (by decide)) (e3_0 hO) rfl rfl rfl rfl rfl (Nat.le_of_ble_eq_true rfl) dX0_findFree_73 ?_
            intro x73 hx73
            refine g_iconst hX dX0_findFree_76 ic_3 ?_
            refine g_icmp_ne hX dX0_findFree_77 (fun h77 => ?_) (fun h77 => ?_)
            · refine g_aload_n hX dX0_findFree_80 rfl rfl ?_
              refine g_aload_n hX dX0_findFree_81 rfl rfl ?_
              refine g_bipush hX dX0_findFree_82 bp_80 ?_
              refine g_iload_n hX dX0_findFree_84 rfl rfl ?_
              refine g_callV hX (As := [.int 80, .int s61_2]) (fun r => (some (.int r))) (fun _ => c61_) (fun _ => mm) (fun _ => lm) (fun r hr => c_X3_get hO hr) mi_X3_get ml_0_76 (okO hO (by decide)) (e3_0 hO) rfl rfl rfl rfl rfl (Nat.le_of_ble_eq_true rfl) dX0_findFree_85 ?_
              intro x85 hx85
              refine g_aload_n hX dX0_findFree_88 rfl rfl ?_
              refine g_bipush hX dX0_findFree_89 bp_96 ?_
              refine g_iload_n hX dX0_findFree_91 rfl rfl ?_
              refine g_callV hX (As := [.int 96, .int s61_2]) (fun r => (some (.int r))) (fun _ => c61_) (fun _ => mm) (fun _ => lm) (fun r hr => c_X3_get hO hr) mi_X3_get ml_0_76 (okO hO (by decide)) (e3_0 hO) rfl rfl rfl rfl rfl (Nat.le_of_ble_eq_true rfl) dX0_findFree_92 ?_
              intro x92 hx92
              refine g_callV hX (As := [.int x85, .int x92]) (fun _ => none) (fun r => r) (fun _ => mm) (fun _ => lm) (fun r hr => c_X0_occupy hC hr) mi_X0_occupy ml_0_141 (okC hC (by decide)) (e0_0 hC) rfl rfl rfl rfl rfl (Nat.le_of_ble_eq_true rfl) dX0_findFree_95 ?_
              intro r95 hr95
              refine g_iinc hX dX0_findFree_98 ic_1 rfl (Nat.le_of_ble_eq_true rfl) rfl ?_
              refine g_goto hX dX0_findFree_101 ?_
              exact g_wk (lv0 := [some (.ref (ad Z C 0)), some (.ref (ad Z o 0)), some (.int (s61_2 + 1))]) ⟨rfl, rfl, rfl, trivial⟩ (g_end (fun h => h))
            · refine g_iinc hX dX0_findFree_98 ic_1 rfl (Nat.le_of_ble_eq_true rfl) rfl ?_
              refine g_goto hX dX0_findFree_101 ?_
              exact g_wk (lv0 := [some (.ref (ad Z C 0)), some (.ref (ad Z o 0)), some (.int (s61_2 + 1))]) ⟨rfl, rfl, rfl, trivial⟩ (g_end (fun h => h))
        · rintro ⟨s61_2, c61_⟩
          show G _ _ (J Z X 3 c61_ mm lm 104 [some (.ref (ad Z C 0)), some (.ref (ad Z o 0)), some (.int s61_2)] [])
          exact g_vret hX (fun h => h) dX0_findFree_104
  exact g r h hF

def f_X0_findCandidates_B12 (C : Nat) (o : Nat) (s12_2 : Int32) (s12_3 : Int32) (c12_ : CM) : Option ((Int32 × Int32 × CM) ⊕ (Int32 × Int32 × CM)) :=
  if (c12_ C 0 10) ≤ s12_3 then
    some (.inl (s12_2, s12_3, c12_))
  else
    (f_X3_isActive c12_ o s12_3).bind fun x22 =>
    if x22 = 0 then
      some (.inr (s12_2, s12_3 + 1, c12_))
    else
      (f_X3_get c12_ o 32 s12_3).bind fun x32 =>
      (f_X4_get c12_ C 7 4 x32).bind fun x49 =>
      (f_X4_set c12_ C 7 4 x32 (x49 ||| (1 <<< (s12_3 &&& 31)))).bind fun r56 =>
      some (.inr (s12_2 ||| (1 <<< (s12_3 &&& 31)), s12_3 + 1, r56))

def f_X0_findCandidates (cm : CM) (C o : Nat) : Option (CM) :=
  (f_X4_fill cm C 7 4 0).bind fun r5 =>
  (itr (fun s : Int32 × Int32 × CM => f_X0_findCandidates_B12 C o s.1 s.2.1 s.2.2) 2000 (0, 0, r5)).bind fun (s12_2, s12_3, c12_) =>
  (f_X4_set c12_ C 7 4 0 s12_2).bind fun r77 =>
  some r77

abbrev rm_X0_findCandidates : Room := { frames := 2, cells := 0, slots := 0, locals := 44 }
set_option maxHeartbeats 2000000 in
set_option maxRecDepth 20000 in
theorem c_X0_findCandidates {Z : ZC} {cm : CM} {mm : MM} {lm : LM} {C o : Nat} {r : CM} (hC : isCh C) (hO : isOf o) (h : f_X0_findCandidates cm C o = some r) : Ct Z yX0_findCandidates cX0_findCandidates 5 none rm_X0_findCandidates [.ref (ad Z C 0), .ref (ad Z o 0)] cm mm lm none r mm lm := by
  refine Ct_of (own := RX0) [some (.ref (ad Z C 0)), some (.ref (ad Z o 0)), none, none, none] ⟨by decide, rfl⟩ rfl (Nat.le_of_ble_eq_true rfl) rfl (fun X hX hF => ?_)
  have g : G (fun r : CM => Fx Z X none none r mm lm) (f_X0_findCandidates cm C o) (J Z X 5 cm mm lm 0 [some (.ref (ad Z C 0)), some (.ref (ad Z o 0)), none, none, none] []) := by
    unfold f_X0_findCandidates
    refine g_aload_n hX dX0_findCandidates_0 rfl rfl ?_
    refine g_get hX fi_0_26 (okC hC (by decide)) (e0_0 hC) rfl dX0_findCandidates_1 ?_
    refine g_iconst hX dX0_findCandidates_4 ic_0 ?_
    refine g_callV hX (As := [.int 0]) (fun _ => none) (fun r => r) (fun _ => mm) (fun _ => lm) (fun r hr => c_X4_fill (rw0_7 hC) hr) mi_X4_fill ml_0_73 (rw0_7 hC).1 (eR_0 (rw0_7 hC)) rfl rfl rfl rfl rfl (Nat.le_of_ble_eq_true rfl) dX0_findCandidates_5 ?_
    intro r5 hr5
    refine g_iconst hX dX0_findCandidates_8 ic_0 ?_
    refine g_istore_n hX dX0_findCandidates_9 rfl (Nat.le_of_ble_eq_true rfl) rfl ?_
    refine g_iconst hX dX0_findCandidates_10 ic_0 ?_
    refine g_istore_n hX dX0_findCandidates_11 rfl (Nat.le_of_ble_eq_true rfl) rfl ?_
    refine g_loop (Hd := fun s : Int32 × Int32 × CM => J Z X 5 s.2.2 mm lm 12 [some (.ref (ad Z C 0)), some (.ref (ad Z o 0)), some (.int s.1), some (.int s.2.1), none] []) (Ex := fun s : Int32 × Int32 × CM => J Z X 5 s.2.2 mm lm 71 [some (.ref (ad Z C 0)), some (.ref (ad Z o 0)), some (.int s.1), some (.int s.2.1), none] []) ?_ ?_
    · rintro ⟨s12_2, s12_3, c12_⟩
      show G _ (f_X0_findCandidates_B12 C o s12_2 s12_3 c12_) (J Z X 5 c12_ mm lm 12 [some (.ref (ad Z C 0)), some (.ref (ad Z o 0)), some (.int s12_2), some (.int s12_3), none] [])
      unfold f_X0_findCandidates_B12
      refine g_iload_n hX dX0_findCandidates_12 rfl rfl ?_
      refine g_aload_n hX dX0_findCandidates_13 rfl rfl ?_
      refine g_get hX fi_0_52 (okC hC (by decide)) (e0_0 hC) rfl dX0_findCandidates_14 ?_
      refine g_icmp_ge hX dX0_findCandidates_17 (fun h17 => ?_) (fun h17 => ?_)
      · exact g_wk (lv0 := [some (.ref (ad Z C 0)), some (.ref (ad Z o 0)), some (.int s12_2), some (.int s12_3), none]) ⟨rfl, rfl, rfl, rfl, trivial⟩ (g_end (fun h => h))
      · refine g_aload_n hX dX0_findCandidates_20 rfl rfl ?_
        refine g_iload_n hX dX0_findCandidates_21 rfl rfl ?_
        refine g_callV hX (As := [.int s12_3]) (fun r => (some (.int r))) (fun _ => c12_) (fun _ => mm) (fun _ => lm) (fun r hr => c_X3_isActive hO hr) mi_X3_isActive ml_0_153 (okO hO (by decide)) (e3_0 hO) rfl rfl rfl rfl rfl (Nat.le_of_ble_eq_true rfl) dX0_findCandidates_22 ?_
        intro x22 hx22
        refine g_if_eq hX dX0_findCandidates_25 (fun h25 => ?_) (fun h25 => ?_)
        · refine g_iinc hX dX0_findCandidates_65 ic_1 rfl (Nat.le_of_ble_eq_true rfl) rfl ?_
          refine g_goto hX dX0_findCandidates_68 ?_
          exact g_wk (lv0 := [some (.ref (ad Z C 0)), some (.ref (ad Z o 0)), some (.int s12_2), some (.int (s12_3 + 1)), none]) ⟨rfl, rfl, rfl, rfl, trivial⟩ (g_end (fun h => h))
        · refine g_aload_n hX dX0_findCandidates_28 rfl rfl ?_
          refine g_bipush hX dX0_findCandidates_29 bp_32 ?_
          refine g_iload_n hX dX0_findCandidates_31 rfl rfl ?_
          refine g_callV hX (As := [.int 32, .int s12_3]) (fun r => (some (.int r))) (fun _ => c12_) (fun _ => mm) (fun _ => lm) (fun r hr => c_X3_get hO hr) mi_X3_get ml_0_76 (okO hO (by decide)) (e3_0 hO) rfl rfl rfl rfl rfl (Nat.le_of_ble_eq_true rfl) dX0_findCandidates_32 ?_
          intro x32 hx32
          refine g_istore hX dX0_findCandidates_35 (Nat.le_of_ble_eq_true rfl) rfl ?_
          refine g_aload_n hX dX0_findCandidates_37 rfl rfl ?_
          refine g_get hX fi_0_26 (okC hC (by decide)) (e0_0 hC) rfl dX0_findCandidates_38 ?_
          refine g_iload hX dX0_findCandidates_41 rfl ?_
          refine g_aload_n hX dX0_findCandidates_43 rfl rfl ?_
          refine g_get hX fi_0_26 (okC hC (by decide)) (e0_0 hC) rfl dX0_findCandidates_44 ?_
          refine g_iload hX dX0_findCandidates_47 rfl ?_
          refine g_callV hX (As := [.int x32]) (fun r => (some (.int r))) (fun _ => c12_) (fun _ => mm) (fun _ => lm) (fun r hr => c_X4_get (rw0_7 hC) hr) mi_X4_get ml_0_105 (rw0_7 hC).1 (eR_0 (rw0_7 hC)) rfl rfl rfl rfl rfl (Nat.le_of_ble_eq_true rfl) dX0_findCandidates_49 ?_
          intro x49 hx49
          refine g_iconst hX dX0_findCandidates_52 ic_1 ?_
          refine g_iload_n hX dX0_findCandidates_53 rfl rfl ?_
          refine g_ishl hX dX0_findCandidates_54 ?_
          refine g_ior hX dX0_findCandidates_55 ?_
          refine g_callV hX (As := [.int x32, .int (x49 ||| (1 <<< (s12_3 &&& 31)))]) (fun _ => none) (fun r => r) (fun _ => mm) (fun _ => lm) (fun r hr => c_X4_set (rw0_7 hC) hr) mi_X4_set ml_0_101 (rw0_7 hC).1 (eR_0 (rw0_7 hC)) rfl rfl rfl rfl rfl (Nat.le_of_ble_eq_true rfl) dX0_findCandidates_56 ?_
          intro r56 hr56
          refine g_iload_n hX dX0_findCandidates_59 rfl rfl ?_
          refine g_iconst hX dX0_findCandidates_60 ic_1 ?_
          refine g_iload_n hX dX0_findCandidates_61 rfl rfl ?_
          refine g_ishl hX dX0_findCandidates_62 ?_
          refine g_ior hX dX0_findCandidates_63 ?_
          refine g_istore_n hX dX0_findCandidates_64 rfl (Nat.le_of_ble_eq_true rfl) rfl ?_
          refine g_iinc hX dX0_findCandidates_65 ic_1 rfl (Nat.le_of_ble_eq_true rfl) rfl ?_
          refine g_goto hX dX0_findCandidates_68 ?_
          exact g_wk (lv0 := [some (.ref (ad Z C 0)), some (.ref (ad Z o 0)), some (.int (s12_2 ||| (1 <<< (s12_3 &&& 31)))), some (.int (s12_3 + 1)), none]) ⟨rfl, rfl, rfl, rfl, trivial⟩ (g_end (fun h => h))
    · rintro ⟨s12_2, s12_3, c12_⟩
      show G _ _ (J Z X 5 c12_ mm lm 71 [some (.ref (ad Z C 0)), some (.ref (ad Z o 0)), some (.int s12_2), some (.int s12_3), none] [])
      refine g_aload_n hX dX0_findCandidates_71 rfl rfl ?_
      refine g_get hX fi_0_26 (okC hC (by decide)) (e0_0 hC) rfl dX0_findCandidates_72 ?_
      refine g_iconst hX dX0_findCandidates_75 ic_0 ?_
      refine g_iload_n hX dX0_findCandidates_76 rfl rfl ?_
      refine g_callV hX (As := [.int 0, .int s12_2]) (fun _ => none) (fun r => r) (fun _ => mm) (fun _ => lm) (fun r hr => c_X4_set (rw0_7 hC) hr) mi_X4_set ml_0_101 (rw0_7 hC).1 (eR_0 (rw0_7 hC)) rfl rfl rfl rfl rfl (Nat.le_of_ble_eq_true rfl) dX0_findCandidates_77 ?_
      intro r77 hr77
      exact g_vret hX (fun h => h) dX0_findCandidates_80
  exact g r h hF

def f_X0_lineUp_B13 (C : Nat) (x2 : Int32) (s13_3 : Int32) (c13_ : CM) : Option ((Int32 × CM) ⊕ (Int32 × CM)) :=
  if (c13_ C 0 10) ≤ s13_3 then
    some (.inl (s13_3, c13_))
  else
    (f_X0_personAt c13_ C s13_3).bind fun x23 =>
    if ((x2 >>> (x23 &&& 31)) &&& 1) = 1 then
      (f_X4_set c13_ C 15 16 (c13_ C 0 9) x23).bind fun r48 =>
      some (.inr (s13_3 + 1, u3 r48 C 0 (upd (r48 C 0) 9 ((r48 C 0 9) + 1))))
    else
      some (.inr (s13_3 + 1, c13_))

def f_X0_lineUp (cm : CM) (C : Nat) (a1 : Int32) : Option (CM) :=
  (f_X0_withoutSeat cm C a1).bind fun x2 =>
  (itr (fun s : Int32 × CM => f_X0_lineUp_B13 C x2 s.1 s.2) 2000 (0, u3 cm C 0 (upd (cm C 0) 9 0))).bind fun (s13_3, c13_) =>
  some c13_

abbrev rm_X0_lineUp : Room := { frames := 2, cells := 0, slots := 0, locals := 42 }
set_option maxHeartbeats 2000000 in
set_option maxRecDepth 20000 in
theorem c_X0_lineUp {Z : ZC} {cm : CM} {mm : MM} {lm : LM} {C : Nat} {a1 : Int32} {r : CM} (hC : isCh C) (h : f_X0_lineUp cm C a1 = some r) : Ct Z yX0_lineUp cX0_lineUp 5 none rm_X0_lineUp [.ref (ad Z C 0), .int a1] cm mm lm none r mm lm := by
  refine Ct_of (own := RX0) [some (.ref (ad Z C 0)), some (.int a1), none, none, none] ⟨by decide, rfl⟩ rfl (Nat.le_of_ble_eq_true rfl) rfl (fun X hX hF => ?_)
  have g : G (fun r : CM => Fx Z X none none r mm lm) (f_X0_lineUp cm C a1) (J Z X 5 cm mm lm 0 [some (.ref (ad Z C 0)), some (.int a1), none, none, none] []) := by
    unfold f_X0_lineUp
    refine g_aload_n hX dX0_lineUp_0 rfl rfl ?_
    refine g_iload_n hX dX0_lineUp_1 rfl rfl ?_
    refine g_callV hX (As := [.int a1]) (fun r => (some (.int r))) (fun _ => cm) (fun _ => mm) (fun _ => lm) (fun r hr => c_X0_withoutSeat hC hr) mi_X0_withoutSeat ml_0_128 (okC hC (by decide)) (e0_0 hC) rfl rfl rfl rfl rfl (Nat.le_of_ble_eq_true rfl) dX0_lineUp_2 ?_
    intro x2 hx2
    refine g_istore_n hX dX0_lineUp_5 rfl (Nat.le_of_ble_eq_true rfl) rfl ?_
    refine g_aload_n hX dX0_lineUp_6 rfl rfl ?_
    refine g_iconst hX dX0_lineUp_7 ic_0 ?_
    refine g_putC hX fi_0_48 (okC hC (by decide)) (n32C hC) (s0_0 hC Z) rfl (Nat.le_of_ble_eq_true rfl) tyX0_ok nmX0 rfl rfl rfl rfl dX0_lineUp_8 ?_
    refine g_iconst hX dX0_lineUp_11 ic_0 ?_
    refine g_istore_n hX dX0_lineUp_12 rfl (Nat.le_of_ble_eq_true rfl) rfl ?_
    refine g_loop (Hd := fun s : Int32 × CM => J Z X 5 s.2 mm lm 13 [some (.ref (ad Z C 0)), some (.int a1), some (.int x2), some (.int s.1), none] []) (Ex := fun s : Int32 × CM => J Z X 5 s.2 mm lm 67 [some (.ref (ad Z C 0)), some (.int a1), some (.int x2), some (.int s.1), none] []) ?_ ?_
    · rintro ⟨s13_3, c13_⟩
      show G _ (f_X0_lineUp_B13 C x2 s13_3 c13_) (J Z X 5 c13_ mm lm 13 [some (.ref (ad Z C 0)), some (.int a1), some (.int x2), some (.int s13_3), none] [])
      unfold f_X0_lineUp_B13
      refine g_iload_n hX dX0_lineUp_13 rfl rfl ?_
      refine g_aload_n hX dX0_lineUp_14 rfl rfl ?_
      refine g_get hX fi_0_52 (okC hC (by decide)) (e0_0 hC) rfl dX0_lineUp_15 ?_
      refine g_icmp_ge hX dX0_lineUp_18 (fun h18 => ?_) (fun h18 => ?_)
      · exact g_wk (lv0 := [some (.ref (ad Z C 0)), some (.int a1), some (.int x2), some (.int s13_3), none]) ⟨rfl, rfl, rfl, rfl, trivial⟩ (g_end (fun h => h))
      · refine g_aload_n hX dX0_lineUp_21 rfl rfl ?_
        refine g_iload_n hX dX0_lineUp_22 rfl rfl ?_
        refine g_callV hX (As := [.int s13_3]) (fun r => (some (.int r))) (fun _ => c13_) (fun _ => mm) (fun _ => lm) (fun r hr => c_X0_personAt hC hr) mi_X0_personAt ml_0_90 (okC hC (by decide)) (e0_0 hC) rfl rfl rfl rfl rfl (Nat.le_of_ble_eq_true rfl) dX0_lineUp_23 ?_
        intro x23 hx23
        refine g_istore hX dX0_lineUp_26 (Nat.le_of_ble_eq_true rfl) rfl ?_
        refine g_iload_n hX dX0_lineUp_28 rfl rfl ?_
        refine g_iload hX dX0_lineUp_29 rfl ?_
        refine g_ishr hX dX0_lineUp_31 ?_
        refine g_iconst hX dX0_lineUp_32 ic_1 ?_
        refine g_iand hX dX0_lineUp_33 ?_
        refine g_iconst hX dX0_lineUp_34 ic_1 ?_
        refine g_icmp_ne hX dX0_lineUp_35 (fun h35 => ?_) (fun h35 => ?_)
        · refine g_aload_n hX dX0_lineUp_38 rfl rfl ?_
          refine g_get hX fi_0_38 (okC hC (by decide)) (e0_0 hC) rfl dX0_lineUp_39 ?_
          refine g_aload_n hX dX0_lineUp_42 rfl rfl ?_
          refine g_get hX fi_0_48 (okC hC (by decide)) (e0_0 hC) rfl dX0_lineUp_43 ?_
          refine g_iload hX dX0_lineUp_46 rfl ?_
          refine g_callV hX (As := [.int (c13_ C 0 9), .int x23]) (fun _ => none) (fun r => r) (fun _ => mm) (fun _ => lm) (fun r hr => c_X4_set (rw0_15 hC) hr) mi_X4_set ml_0_101 (rw0_15 hC).1 (eR_0 (rw0_15 hC)) rfl rfl rfl rfl rfl (Nat.le_of_ble_eq_true rfl) dX0_lineUp_48 ?_
          intro r48 hr48
          refine g_aload_n hX dX0_lineUp_51 rfl rfl ?_
          refine g_dup hX dX0_lineUp_52 rfl ?_
          refine g_get hX fi_0_48 (okC hC (by decide)) (e0_0 hC) rfl dX0_lineUp_53 ?_
          refine g_iconst hX dX0_lineUp_56 ic_1 ?_
          refine g_iadd hX dX0_lineUp_57 ?_
          refine g_putC hX fi_0_48 (okC hC (by decide)) (n32C hC) (s0_0 hC Z) rfl (Nat.le_of_ble_eq_true rfl) tyX0_ok nmX0 rfl rfl rfl rfl dX0_lineUp_58 ?_
          refine g_iinc hX dX0_lineUp_61 ic_1 rfl (Nat.le_of_ble_eq_true rfl) rfl ?_
          refine g_goto hX dX0_lineUp_64 ?_
          exact g_wk (lv0 := [some (.ref (ad Z C 0)), some (.int a1), some (.int x2), some (.int (s13_3 + 1)), none]) ⟨rfl, rfl, rfl, rfl, trivial⟩ (g_end (fun h => h))
        · refine g_iinc hX dX0_lineUp_61 ic_1 rfl (Nat.le_of_ble_eq_true rfl) rfl ?_
          refine g_goto hX dX0_lineUp_64 ?_
          exact g_wk (lv0 := [some (.ref (ad Z C 0)), some (.int a1), some (.int x2), some (.int (s13_3 + 1)), none]) ⟨rfl, rfl, rfl, rfl, trivial⟩ (g_end (fun h => h))
    · rintro ⟨s13_3, c13_⟩
      show G _ _ (J Z X 5 c13_ mm lm 67 [some (.ref (ad Z C 0)), some (.int a1), some (.int x2), some (.int s13_3), none] [])
      exact g_vret hX (fun h => h) dX0_lineUp_67
  exact g r h hF

def f_X0_take (cm : CM) (C : Nat) (a1 a2 a3 : Int32) : Option (CM) :=
  (f_X4_set (u3 cm C 0 (upd (cm C 0) 11 ((cm C 0 11) ||| (1 <<< (a1 &&& 31))))) C 9 16 a1 a2).bind fun r18 =>
  (f_X4_set r18 C 11 16 a1 a3).bind fun r27 =>
  some r27

abbrev rm_X0_take : Room := { frames := 1, cells := 0, slots := 0, locals := 22 }
set_option maxHeartbeats 2000000 in
set_option maxRecDepth 20000 in
theorem c_X0_take {Z : ZC} {cm : CM} {mm : MM} {lm : LM} {C : Nat} {a1 a2 a3 : Int32} {r : CM} (hC : isCh C) (h : f_X0_take cm C a1 a2 a3 = some r) : Ct Z yX0_take cX0_take 4 none rm_X0_take [.ref (ad Z C 0), .int a1, .int a2, .int a3] cm mm lm none r mm lm := by
  refine Ct_of (own := RX0) [some (.ref (ad Z C 0)), some (.int a1), some (.int a2), some (.int a3)] ⟨by decide, rfl⟩ rfl (Nat.le_of_ble_eq_true rfl) rfl (fun X hX hF => ?_)
  have g : G (fun r : CM => Fx Z X none none r mm lm) (f_X0_take cm C a1 a2 a3) (J Z X 4 cm mm lm 0 [some (.ref (ad Z C 0)), some (.int a1), some (.int a2), some (.int a3)] []) := by
    unfold f_X0_take
    refine g_aload_n hX dX0_take_0 rfl rfl ?_
    refine g_dup hX dX0_take_1 rfl ?_
    refine g_get hX fi_0_55 (okC hC (by decide)) (e0_0 hC) rfl dX0_take_2 ?_
    refine g_iconst hX dX0_take_5 ic_1 ?_
    refine g_iload_n hX dX0_take_6 rfl rfl ?_
    refine g_ishl hX dX0_take_7 ?_
    refine g_ior hX dX0_take_8 ?_
    refine g_putC hX fi_0_55 (okC hC (by decide)) (n32C hC) (s0_0 hC Z) rfl (Nat.le_of_ble_eq_true rfl) tyX0_ok nmX0 rfl rfl rfl rfl dX0_take_9 ?_
    refine g_aload_n hX dX0_take_12 rfl rfl ?_
    refine g_get hX fi_0_29 (okC hC (by decide)) (e0_0 hC) rfl dX0_take_13 ?_
    refine g_iload_n hX dX0_take_16 rfl rfl ?_
    refine g_iload_n hX dX0_take_17 rfl rfl ?_
    refine g_callV hX (As := [.int a1, .int a2]) (fun _ => none) (fun r => r) (fun _ => mm) (fun _ => lm) (fun r hr => c_X4_set (rw0_9 hC) hr) mi_X4_set ml_0_101 (rw0_9 hC).1 (eR_0 (rw0_9 hC)) rfl rfl rfl rfl rfl (Nat.le_of_ble_eq_true rfl) dX0_take_18 ?_
    intro r18 hr18
    refine g_aload_n hX dX0_take_21 rfl rfl ?_
    refine g_get hX fi_0_32 (okC hC (by decide)) (e0_0 hC) rfl dX0_take_22 ?_
    refine g_iload_n hX dX0_take_25 rfl rfl ?_
    refine g_iload_n hX dX0_take_26 rfl rfl ?_
    refine g_callV hX (As := [.int a1, .int a3]) (fun _ => none) (fun r => r) (fun _ => mm) (fun _ => lm) (fun r hr => c_X4_set (rw0_11 hC) hr) mi_X4_set ml_0_101 (rw0_11 hC).1 (eR_0 (rw0_11 hC)) rfl rfl rfl rfl rfl (Nat.le_of_ble_eq_true rfl) dX0_take_27 ?_
    intro r27 hr27
    exact g_vret hX (fun h => h) dX0_take_30
  exact g r h hF

def f_X0_takeBest_B5 (C : Nat) (a1 : Int32) (s5_3 : Int32) (s5_4 : Int32) (c5_ : CM) : Option ((Int32 × Int32 × CM) ⊕ (Int32 × Int32 × CM)) :=
  if (c5_ C 0 9) ≤ s5_4 then
    some (.inl (s5_3, s5_4, c5_))
  else
    if s5_3 ≤ 0 then
      some (.inl (s5_3, s5_4, c5_))
    else
      (f_X4_get c5_ C 15 16 s5_4).bind fun x24 =>
      (f_X0_has c5_ C x24).bind fun x32 =>
      if x32 = 0 then
        (f_X0_take c5_ C x24 a1 (-9)).bind fun r44 =>
        some (.inr (s5_3 + (-1), s5_4 + 1, r44))
      else
        some (.inr (s5_3, s5_4 + 1, c5_))

def f_X0_takeBest (cm : CM) (C : Nat) (a1 a2 : Int32) : Option (CM) :=
  (itr (fun s : Int32 × Int32 × CM => f_X0_takeBest_B5 C a1 s.1 s.2.1 s.2.2) 2000 (a2, 0, cm)).bind fun (s5_3, s5_4, c5_) =>
  some c5_

abbrev rm_X0_takeBest : Room := { frames := 2, cells := 0, slots := 0, locals := 45 }
set_option maxHeartbeats 2000000 in
set_option maxRecDepth 20000 in
theorem c_X0_takeBest {Z : ZC} {cm : CM} {mm : MM} {lm : LM} {C : Nat} {a1 a2 : Int32} {r : CM} (hC : isCh C) (h : f_X0_takeBest cm C a1 a2 = some r) : Ct Z yX0_takeBest cX0_takeBest 6 none rm_X0_takeBest [.ref (ad Z C 0), .int a1, .int a2] cm mm lm none r mm lm := by
  refine Ct_of (own := RX0) [some (.ref (ad Z C 0)), some (.int a1), some (.int a2), none, none, none] ⟨by decide, rfl⟩ rfl (Nat.le_of_ble_eq_true rfl) rfl (fun X hX hF => ?_)
  have g : G (fun r : CM => Fx Z X none none r mm lm) (f_X0_takeBest cm C a1 a2) (J Z X 6 cm mm lm 0 [some (.ref (ad Z C 0)), some (.int a1), some (.int a2), none, none, none] []) := by
    unfold f_X0_takeBest
    refine g_iload_n hX dX0_takeBest_0 rfl rfl ?_
    refine g_istore_n hX dX0_takeBest_1 rfl (Nat.le_of_ble_eq_true rfl) rfl ?_
    refine g_iconst hX dX0_takeBest_2 ic_0 ?_
    refine g_istore hX dX0_takeBest_3 (Nat.le_of_ble_eq_true rfl) rfl ?_
    refine g_loop (Hd := fun s : Int32 × Int32 × CM => J Z X 6 s.2.2 mm lm 5 [some (.ref (ad Z C 0)), some (.int a1), some (.int a2), some (.int s.1), some (.int s.2.1), none] []) (Ex := fun s : Int32 × Int32 × CM => J Z X 6 s.2.2 mm lm 56 [some (.ref (ad Z C 0)), some (.int a1), some (.int a2), some (.int s.1), some (.int s.2.1), none] []) ?_ ?_
    · rintro ⟨s5_3, s5_4, c5_⟩
      show G _ (f_X0_takeBest_B5 C a1 s5_3 s5_4 c5_) (J Z X 6 c5_ mm lm 5 [some (.ref (ad Z C 0)), some (.int a1), some (.int a2), some (.int s5_3), some (.int s5_4), none] [])
      unfold f_X0_takeBest_B5
      refine g_iload hX dX0_takeBest_5 rfl ?_
      refine g_aload_n hX dX0_takeBest_7 rfl rfl ?_
      refine g_get hX fi_0_48 (okC hC (by decide)) (e0_0 hC) rfl dX0_takeBest_8 ?_
      refine g_icmp_ge hX dX0_takeBest_11 (fun h11 => ?_) (fun h11 => ?_)
      · exact g_wk (lv0 := [some (.ref (ad Z C 0)), some (.int a1), some (.int a2), some (.int s5_3), some (.int s5_4), none]) ⟨rfl, rfl, rfl, rfl, rfl, trivial⟩ (g_end (fun h => h))
      · refine g_iload_n hX dX0_takeBest_14 rfl rfl ?_
        refine g_if_le hX dX0_takeBest_15 (fun h15 => ?_) (fun h15 => ?_)
        · exact g_wk (lv0 := [some (.ref (ad Z C 0)), some (.int a1), some (.int a2), some (.int s5_3), some (.int s5_4), none]) ⟨rfl, rfl, rfl, rfl, rfl, trivial⟩ (g_end (fun h => h))
        · refine g_aload_n hX dX0_takeBest_18 rfl rfl ?_
          refine g_get hX fi_0_38 (okC hC (by decide)) (e0_0 hC) rfl dX0_takeBest_19 ?_
          refine g_iload hX dX0_takeBest_22 rfl ?_
          refine g_callV hX (As := [.int s5_4]) (fun r => (some (.int r))) (fun _ => c5_) (fun _ => mm) (fun _ => lm) (fun r hr => c_X4_get (rw0_15 hC) hr) mi_X4_get ml_0_105 (rw0_15 hC).1 (eR_0 (rw0_15 hC)) rfl rfl rfl rfl rfl (Nat.le_of_ble_eq_true rfl) dX0_takeBest_24 ?_
          intro x24 hx24
          refine g_istore hX dX0_takeBest_27 (Nat.le_of_ble_eq_true rfl) rfl ?_
          refine g_aload_n hX dX0_takeBest_29 rfl rfl ?_
          refine g_iload hX dX0_takeBest_30 rfl ?_
          refine g_callV hX (As := [.int x24]) (fun r => (some (.int r))) (fun _ => c5_) (fun _ => mm) (fun _ => lm) (fun r hr => c_X0_has hC hr) mi_X0_has ml_0_183 (okC hC (by decide)) (e0_0 hC) rfl rfl rfl rfl rfl (Nat.le_of_ble_eq_true rfl) dX0_takeBest_32 ?_
          intro x32 hx32
          refine g_if_ne hX dX0_takeBest_35 (fun h35 => ?_) (fun h35 => ?_)
          · refine g_aload_n hX dX0_takeBest_38 rfl rfl ?_
            refine g_iload hX dX0_takeBest_39 rfl ?_
            refine g_iload_n hX dX0_takeBest_41 rfl rfl ?_
            refine g_bipush hX dX0_takeBest_42 bp_m9 ?_
            refine g_callV hX (As := [.int x24, .int a1, .int (-9)]) (fun _ => none) (fun r => r) (fun _ => mm) (fun _ => lm) (fun r hr => c_X0_take hC hr) mi_X0_take ml_0_174 (okC hC (by decide)) (e0_0 hC) rfl rfl rfl rfl rfl (Nat.le_of_ble_eq_true rfl) dX0_takeBest_44 ?_
            intro r44 hr44
            refine g_iinc hX dX0_takeBest_47 ic_m1 rfl (Nat.le_of_ble_eq_true rfl) rfl ?_
            refine g_iinc hX dX0_takeBest_50 ic_1 rfl (Nat.le_of_ble_eq_true rfl) rfl ?_
            refine g_goto hX dX0_takeBest_53 ?_
            exact g_wk (lv0 := [some (.ref (ad Z C 0)), some (.int a1), some (.int a2), some (.int (s5_3 + (-1))), some (.int (s5_4 + 1)), none]) ⟨rfl, rfl, rfl, rfl, rfl, trivial⟩ (g_end (fun h => h))
          · refine g_iinc hX dX0_takeBest_50 ic_1 rfl (Nat.le_of_ble_eq_true rfl) rfl ?_
            refine g_goto hX dX0_takeBest_53 ?_
            exact g_wk (lv0 := [some (.ref (ad Z C 0)), some (.int a1), some (.int a2), some (.int s5_3), some (.int (s5_4 + 1)), none]) ⟨rfl, rfl, rfl, rfl, rfl, trivial⟩ (g_end (fun h => h))
    · rintro ⟨s5_3, s5_4, c5_⟩
      show G _ _ (J Z X 6 c5_ mm lm 56 [some (.ref (ad Z C 0)), some (.int a1), some (.int a2), some (.int s5_3), some (.int s5_4), none] [])
      exact g_vret hX (fun h => h) dX0_takeBest_56
  exact g r h hF

def f_X0_takeForGroup_B6 (C : Nat) (o : Nat) (a2 : Int32) (a3 : Int32) (a4 : Int32) (s6_5 : Int32) (s6_6 : Int32) (c6_ : CM) : Option ((Int32 × Int32 × CM) ⊕ (Int32 × Int32 × CM)) :=
  if (c6_ C 0 9) ≤ s6_6 then
    some (.inl (s6_5, s6_6, c6_))
  else
    if a4 ≤ s6_5 then
      some (.inl (s6_5, s6_6, c6_))
    else
      (f_X4_get c6_ C 15 16 s6_6).bind fun x28 =>
      (f_X0_has c6_ C x28).bind fun x36 =>
      if x36 = 0 then
        (f_X3_get c6_ o 48 x28).bind fun x47 =>
        if ((x47 >>> (a3 &&& 31)) &&& 1) = 1 then
          (f_X0_take c6_ C x28 a2 a3).bind fun r63 =>
          some (.inr (s6_5 + 1, s6_6 + 1, r63))
        else
          some (.inr (s6_5, s6_6 + 1, c6_))
      else
        some (.inr (s6_5, s6_6 + 1, c6_))

def f_X0_takeForGroup (cm : CM) (C o : Nat) (a2 a3 a4 : Int32) : Option (Int32 × CM) :=
  (itr (fun s : Int32 × Int32 × CM => f_X0_takeForGroup_B6 C o a2 a3 a4 s.1 s.2.1 s.2.2) 2000 (0, 0, cm)).bind fun (s6_5, s6_6, c6_) =>
  some (s6_5, c6_)

abbrev rm_X0_takeForGroup : Room := { frames := 2, cells := 0, slots := 0, locals := 45 }
set_option maxHeartbeats 2000000 in
set_option maxRecDepth 20000 in
theorem c_X0_takeForGroup {Z : ZC} {cm : CM} {mm : MM} {lm : LM} {C o : Nat} {a2 a3 a4 : Int32} {r : Int32 × CM} (hC : isCh C) (hO : isOf o) (h : f_X0_takeForGroup cm C o a2 a3 a4 = some r) : Ct Z yX0_takeForGroup cX0_takeForGroup 8 (some .int) rm_X0_takeForGroup [.ref (ad Z C 0), .ref (ad Z o 0), .int a2, .int a3, .int a4] cm mm lm (some (.int r.1)) r.2 mm lm := by
  refine Ct_of (own := RX0) [some (.ref (ad Z C 0)), some (.ref (ad Z o 0)), some (.int a2), some (.int a3), some (.int a4), none, none, none] ⟨by decide, rfl⟩ rfl (Nat.le_of_ble_eq_true rfl) rfl (fun X hX hF => ?_)
  have g : G (fun r : Int32 × CM => Fx Z X (some .int) (some (.int r.1)) r.2 mm lm) (f_X0_takeForGroup cm C o a2 a3 a4) (J Z X 8 cm mm lm 0 [some (.ref (ad Z C 0)), some (.ref (ad Z o 0)), some (.int a2), some (.int a3), some (.int a4), none, none, none] []) := by
    unfold f_X0_takeForGroup
    refine g_iconst hX dX0_takeForGroup_0 ic_0 ?_
    refine g_istore hX dX0_takeForGroup_1 (Nat.le_of_ble_eq_true rfl) rfl ?_
    refine g_iconst hX dX0_takeForGroup_3 ic_0 ?_
    refine g_istore hX dX0_takeForGroup_4 (Nat.le_of_ble_eq_true rfl) rfl ?_
    refine g_loop (Hd := fun s : Int32 × Int32 × CM => J Z X 8 s.2.2 mm lm 6 [some (.ref (ad Z C 0)), some (.ref (ad Z o 0)), some (.int a2), some (.int a3), some (.int a4), some (.int s.1), some (.int s.2.1), none] []) (Ex := fun s : Int32 × Int32 × CM => J Z X 8 s.2.2 mm lm 75 [some (.ref (ad Z C 0)), some (.ref (ad Z o 0)), some (.int a2), some (.int a3), some (.int a4), some (.int s.1), some (.int s.2.1), none] []) ?_ ?_
    · rintro ⟨s6_5, s6_6, c6_⟩
      show G _ (f_X0_takeForGroup_B6 C o a2 a3 a4 s6_5 s6_6 c6_) (J Z X 8 c6_ mm lm 6 [some (.ref (ad Z C 0)), some (.ref (ad Z o 0)), some (.int a2), some (.int a3), some (.int a4), some (.int s6_5), some (.int s6_6), none] [])
      unfold f_X0_takeForGroup_B6
      refine g_iload hX dX0_takeForGroup_6 rfl ?_
      refine g_aload_n hX dX0_takeForGroup_8 rfl rfl ?_
      refine g_get hX fi_0_48 (okC hC (by decide)) (e0_0 hC) rfl dX0_takeForGroup_9 ?_
      refine g_icmp_ge hX dX0_takeForGroup_12 (fun h12 => ?_) (fun h12 => ?_)
      · exact g_wk (lv0 := [some (.ref (ad Z C 0)), some (.ref (ad Z o 0)), some (.int a2), some (.int a3), some (.int a4), some (.int s6_5), some (.int s6_6), none]) ⟨rfl, rfl, rfl, rfl, rfl, rfl, rfl, trivial⟩ (g_end (fun h => h))
      · refine g_iload hX dX0_takeForGroup_15 rfl ?_
        refine g_iload hX dX0_takeForGroup_17 rfl ?_
        refine g_icmp_ge hX dX0_takeForGroup_19 (fun h19 => ?_) (fun h19 => ?_)
        · exact g_wk (lv0 := [some (.ref (ad Z C 0)), some (.ref (ad Z o 0)), some (.int a2), some (.int a3), some (.int a4), some (.int s6_5), some (.int s6_6), none]) ⟨rfl, rfl, rfl, rfl, rfl, rfl, rfl, trivial⟩ (g_end (fun h => h))
        · refine g_aload_n hX dX0_takeForGroup_22 rfl rfl ?_
          refine g_get hX fi_0_38 (okC hC (by decide)) (e0_0 hC) rfl dX0_takeForGroup_23 ?_
          refine g_iload hX dX0_takeForGroup_26 rfl ?_
          refine g_callV hX (As := [.int s6_6]) (fun r => (some (.int r))) (fun _ => c6_) (fun _ => mm) (fun _ => lm) (fun r hr => c_X4_get (rw0_15 hC) hr) mi_X4_get ml_0_105 (rw0_15 hC).1 (eR_0 (rw0_15 hC)) rfl rfl rfl rfl rfl (Nat.le_of_ble_eq_true rfl) dX0_takeForGroup_28 ?_
          intro x28 hx28
          refine g_istore hX dX0_takeForGroup_31 (Nat.le_of_ble_eq_true rfl) rfl ?_
          refine g_aload_n hX dX0_takeForGroup_33 rfl rfl ?_
          refine g_iload hX dX0_takeForGroup_34 rfl ?_
          refine g_callV hX (As := [.int x28]) (fun r => (some (.int r))) (fun _ => c6_) (fun _ => mm) (fun _ => lm) (fun r hr => c_X0_has hC hr) mi_X0_has ml_0_183 (okC hC (by decide)) (e0_0 hC) rfl rfl rfl rfl rfl (Nat.le_of_ble_eq_true rfl) dX0_takeForGroup_36 ?_
          intro x36 hx36
          refine g_if_ne hX dX0_takeForGroup_39 (fun h39 => ?_) (fun h39 => ?_)
          · refine g_aload_n hX dX0_takeForGroup_42 rfl rfl ?_
            refine g_bipush hX dX0_takeForGroup_43 bp_48 ?_
            refine g_iload hX dX0_takeForGroup_45 rfl ?_
            refine g_callV hX (As := [.int 48, .int x28]) (fun r => (some (.int r))) (fun _ => c6_) (fun _ => mm) (fun _ => lm) (fun r hr => c_X3_get hO hr) mi_X3_get ml_0_76 (okO hO (by decide)) (e3_0 hO) rfl rfl rfl rfl rfl (Nat.le_of_ble_eq_true rfl) dX0_takeForGroup_47 ?_
            intro x47 hx47
            refine g_iload_n hX dX0_takeForGroup_50 rfl rfl ?_
            refine g_ishr hX dX0_takeForGroup_51 ?_
            refine g_iconst hX dX0_takeForGroup_52 ic_1 ?_
            refine g_iand hX dX0_takeForGroup_53 ?_
            refine g_iconst hX dX0_takeForGroup_54 ic_1 ?_
            refine g_icmp_ne hX dX0_takeForGroup_55 (fun h55 => ?_) (fun h55 => ?_)
            · refine g_aload_n hX dX0_takeForGroup_58 rfl rfl ?_
              refine g_iload hX dX0_takeForGroup_59 rfl ?_
              refine g_iload_n hX dX0_takeForGroup_61 rfl rfl ?_
              refine g_iload_n hX dX0_takeForGroup_62 rfl rfl ?_
              refine g_callV hX (As := [.int x28, .int a2, .int a3]) (fun _ => none) (fun r => r) (fun _ => mm) (fun _ => lm) (fun r hr => c_X0_take hC hr) mi_X0_take ml_0_174 (okC hC (by decide)) (e0_0 hC) rfl rfl rfl rfl rfl (Nat.le_of_ble_eq_true rfl) dX0_takeForGroup_63 ?_
              intro r63 hr63
              refine g_iinc hX dX0_takeForGroup_66 ic_1 rfl (Nat.le_of_ble_eq_true rfl) rfl ?_
              refine g_iinc hX dX0_takeForGroup_69 ic_1 rfl (Nat.le_of_ble_eq_true rfl) rfl ?_
              refine g_goto hX dX0_takeForGroup_72 ?_
              exact g_wk (lv0 := [some (.ref (ad Z C 0)), some (.ref (ad Z o 0)), some (.int a2), some (.int a3), some (.int a4), some (.int (s6_5 + 1)), some (.int (s6_6 + 1)), none]) ⟨rfl, rfl, rfl, rfl, rfl, rfl, rfl, trivial⟩ (g_end (fun h => h))
            · refine g_iinc hX dX0_takeForGroup_69 ic_1 rfl (Nat.le_of_ble_eq_true rfl) rfl ?_
              refine g_goto hX dX0_takeForGroup_72 ?_
              exact g_wk (lv0 := [some (.ref (ad Z C 0)), some (.ref (ad Z o 0)), some (.int a2), some (.int a3), some (.int a4), some (.int s6_5), some (.int (s6_6 + 1)), none]) ⟨rfl, rfl, rfl, rfl, rfl, rfl, rfl, trivial⟩ (g_end (fun h => h))
          · refine g_iinc hX dX0_takeForGroup_69 ic_1 rfl (Nat.le_of_ble_eq_true rfl) rfl ?_
            refine g_goto hX dX0_takeForGroup_72 ?_
            exact g_wk (lv0 := [some (.ref (ad Z C 0)), some (.ref (ad Z o 0)), some (.int a2), some (.int a3), some (.int a4), some (.int s6_5), some (.int (s6_6 + 1)), none]) ⟨rfl, rfl, rfl, rfl, rfl, rfl, rfl, trivial⟩ (g_end (fun h => h))
    · rintro ⟨s6_5, s6_6, c6_⟩
      show G _ _ (J Z X 8 c6_ mm lm 75 [some (.ref (ad Z C 0)), some (.ref (ad Z o 0)), some (.int a2), some (.int a3), some (.int a4), some (.int s6_5), some (.int s6_6), none] [])
      refine g_iload hX dX0_takeForGroup_75 rfl ?_
      exact g_iret hX (fun h => h) dX0_takeForGroup_77
  exact g r h hF

def f_X0_takeByGroups_B6 (C : Nat) (o : Nat) (a2 : Int32) (s6_4 : Int32) (s6_5 : Int32) (c6_ : CM) : Option ((Int32 × Int32 × CM) ⊕ (Int32 × Int32 × CM)) :=
  if 4 ≤ s6_5 then
    some (.inl (s6_4, s6_5, c6_))
  else
    (f_X0_freeReserved c6_ C a2 s6_5).bind fun x18 =>
    (f_X0_takeForGroup c6_ C o a2 s6_5 (if x18 < s6_4 then x18 else s6_4)).bind fun r35 =>
    some (.inr (s6_4 - r35.1, s6_5 + 1, r35.2))

def f_X0_takeByGroups (cm : CM) (C o : Nat) (a2 a3 : Int32) : Option (CM) :=
  (itr (fun s : Int32 × Int32 × CM => f_X0_takeByGroups_B6 C o a2 s.1 s.2.1 s.2.2) 2000 (a3, 0, cm)).bind fun (s6_4, s6_5, c6_) =>
  (f_X0_takeBest c6_ C a2 s6_4).bind fun r51 =>
  some r51

abbrev rm_X0_takeByGroups : Room := { frames := 3, cells := 0, slots := 0, locals := 72 }
set_option maxHeartbeats 2000000 in
set_option maxRecDepth 20000 in
theorem c_X0_takeByGroups {Z : ZC} {cm : CM} {mm : MM} {lm : LM} {C o : Nat} {a2 a3 : Int32} {r : CM} (hC : isCh C) (hO : isOf o) (h : f_X0_takeByGroups cm C o a2 a3 = some r) : Ct Z yX0_takeByGroups cX0_takeByGroups 7 none rm_X0_takeByGroups [.ref (ad Z C 0), .ref (ad Z o 0), .int a2, .int a3] cm mm lm none r mm lm := by
  refine Ct_of (own := RX0) [some (.ref (ad Z C 0)), some (.ref (ad Z o 0)), some (.int a2), some (.int a3), none, none, none] ⟨by decide, rfl⟩ rfl (Nat.le_of_ble_eq_true rfl) rfl (fun X hX hF => ?_)
  have g : G (fun r : CM => Fx Z X none none r mm lm) (f_X0_takeByGroups cm C o a2 a3) (J Z X 7 cm mm lm 0 [some (.ref (ad Z C 0)), some (.ref (ad Z o 0)), some (.int a2), some (.int a3), none, none, none] []) := by
    unfold f_X0_takeByGroups
    refine g_iload_n hX dX0_takeByGroups_0 rfl rfl ?_
    refine g_istore hX dX0_takeByGroups_1 (Nat.le_of_ble_eq_true rfl) rfl ?_
    refine g_iconst hX dX0_takeByGroups_3 ic_0 ?_
    refine g_istore hX dX0_takeByGroups_4 (Nat.le_of_ble_eq_true rfl) rfl ?_
    refine g_loop (Hd := fun s : Int32 × Int32 × CM => J Z X 7 s.2.2 mm lm 6 [some (.ref (ad Z C 0)), some (.ref (ad Z o 0)), some (.int a2), some (.int a3), some (.int s.1), some (.int s.2.1), none] []) (Ex := fun s : Int32 × Int32 × CM => J Z X 7 s.2.2 mm lm 47 [some (.ref (ad Z C 0)), some (.ref (ad Z o 0)), some (.int a2), some (.int a3), some (.int s.1), some (.int s.2.1), none] []) ?_ ?_
    · rintro ⟨s6_4, s6_5, c6_⟩
      show G _ (f_X0_takeByGroups_B6 C o a2 s6_4 s6_5 c6_) (J Z X 7 c6_ mm lm 6 [some (.ref (ad Z C 0)), some (.ref (ad Z o 0)), some (.int a2), some (.int a3), some (.int s6_4), some (.int s6_5), none] [])
      unfold f_X0_takeByGroups_B6
      refine g_iload hX dX0_takeByGroups_6 rfl ?_
      refine g_iconst hX dX0_takeByGroups_8 ic_4 ?_
      refine g_icmp_ge hX dX0_takeByGroups_9 (fun h9 => ?_) (fun h9 => ?_)
      · exact g_wk (lv0 := [some (.ref (ad Z C 0)), some (.ref (ad Z o 0)), some (.int a2), some (.int a3), some (.int s6_4), some (.int s6_5), none]) ⟨rfl, rfl, rfl, rfl, rfl, rfl, trivial⟩ (g_end (fun h => h))
      · refine g_iload hX dX0_takeByGroups_12 rfl ?_
        refine g_aload_n hX dX0_takeByGroups_14 rfl rfl ?_
        refine g_iload_n hX dX0_takeByGroups_15 rfl rfl ?_
        refine g_iload hX dX0_takeByGroups_16 rfl ?_
        refine g_callV hX (As := [.int a2, .int s6_5]) (fun r => (some (.int r))) (fun _ => c6_) (fun _ => mm) (fun _ => lm) (fun r hr => c_X0_freeReserved hC hr) mi_X0_freeReserved ml_0_178 (okC hC (by decide)) (e0_0 hC) rfl rfl rfl rfl rfl (Nat.le_of_ble_eq_true rfl) dX0_takeByGroups_18 ?_
        intro x18 hx18
        refine g_min hX dX0_takeByGroups_21 mm_0_161 mm_min_2 mm_3 mm_min_4 rfl rfl (Nat.le_of_ble_eq_true rfl) ?_
        refine g_istore hX dX0_takeByGroups_24 (Nat.le_of_ble_eq_true rfl) rfl ?_
        refine g_iload hX dX0_takeByGroups_26 rfl ?_
        refine g_aload_n hX dX0_takeByGroups_28 rfl rfl ?_
        refine g_aload_n hX dX0_takeByGroups_29 rfl rfl ?_
        refine g_iload_n hX dX0_takeByGroups_30 rfl rfl ?_
        refine g_iload hX dX0_takeByGroups_31 rfl ?_
        refine g_iload hX dX0_takeByGroups_33 rfl ?_
        refine g_callV hX (As := [.ref (ad Z o 0), .int a2, .int s6_5, .int (if x18 < s6_4 then x18 else s6_4)]) (fun r => (some (.int r.1))) (fun r => r.2) (fun _ => mm) (fun _ => lm) (fun r hr => c_X0_takeForGroup hC hO hr) mi_X0_takeForGroup ml_0_180 (okC hC (by decide)) (e0_0 hC) rfl rfl rfl rfl rfl (Nat.le_of_ble_eq_true rfl) dX0_takeByGroups_35 ?_
        intro r35 hr35
        refine g_isub hX dX0_takeByGroups_38 ?_
        refine g_istore hX dX0_takeByGroups_39 (Nat.le_of_ble_eq_true rfl) rfl ?_
        refine g_iinc hX dX0_takeByGroups_41 ic_1 rfl (Nat.le_of_ble_eq_true rfl) rfl ?_
        refine g_goto hX dX0_takeByGroups_44 ?_
        exact g_wk (lv0 := [some (.ref (ad Z C 0)), some (.ref (ad Z o 0)), some (.int a2), some (.int a3), some (.int (s6_4 - r35.1)), some (.int (s6_5 + 1)), none]) ⟨rfl, rfl, rfl, rfl, rfl, rfl, trivial⟩ (g_end (fun h => h))
    · rintro ⟨s6_4, s6_5, c6_⟩
      show G _ _ (J Z X 7 c6_ mm lm 47 [some (.ref (ad Z C 0)), some (.ref (ad Z o 0)), some (.int a2), some (.int a3), some (.int s6_4), some (.int s6_5), none] [])
      refine g_aload_n hX dX0_takeByGroups_47 rfl rfl ?_
      refine g_iload_n hX dX0_takeByGroups_48 rfl rfl ?_
      refine g_iload hX dX0_takeByGroups_49 rfl ?_
      refine g_callV hX (As := [.int a2, .int s6_4]) (fun _ => none) (fun r => r) (fun _ => mm) (fun _ => lm) (fun r hr => c_X0_takeBest hC hr) mi_X0_takeBest ml_0_171 (okC hC (by decide)) (e0_0 hC) rfl rfl rfl rfl rfl (Nat.le_of_ble_eq_true rfl) dX0_takeByGroups_51 ?_
      intro r51 hr51
      exact g_vret hX (fun h => h) dX0_takeByGroups_54
  exact g r h hF

def f_X0_takeFullest_B12 (C : Nat) (o : Nat) (s12_4 : Int32) (c12_ : CM) : Option ((Int32 × CM) ⊕ (Int32 × CM)) :=
  if (c12_ C 0 9) ≤ s12_4 then
    some (.inl (s12_4, c12_))
  else
    (f_X4_get c12_ C 15 16 s12_4).bind fun x34 =>
    (f_X3_get c12_ o 48 x34).bind fun x37 =>
    (f_X5_add c12_ C x37 1).bind fun r41 =>
    some (.inr (s12_4 + 1, r41))

def f_X0_takeFullest_B78 (C : Nat) (o : Nat) (a2 : Int32) (a3 : Int32) (x55 : Int32) (s78_5 : Int32) (s78_6 : Int32) (c78_ : CM) : Option ((Int32 × Int32 × CM) ⊕ (Int32 × Int32 × CM)) :=
  if (c78_ C 0 9) ≤ s78_6 then
    some (.inl (s78_5, s78_6, c78_))
  else
    if s78_5 ≤ 0 then
      some (.inl (s78_5, s78_6, c78_))
    else
      (f_X4_get c78_ C 15 16 s78_6).bind fun x98 =>
      (f_X3_get c78_ o 48 x98).bind fun x112 =>
      (f_X5_add c78_ C x112 1).bind fun r116 =>
      (f_X5_fill r116 C).bind fun x123 =>
      if ((x123 + s78_5) - 1) < (if x55 < a3 then x55 else a3) then
        (f_X3_get r116 o 48 x98).bind fun x160 =>
        (f_X5_add r116 C x160 (-1)).bind fun r164 =>
        some (.inr (s78_5, s78_6 + 1, r164))
      else
        (f_X0_take r116 C x98 a2 (-9)).bind fun r142 =>
        some (.inr (s78_5 + (-1), s78_6 + 1, r142))

def f_X0_takeFullest (cm : CM) (C o : Nat) (a2 a3 : Int32) : Option (CM) :=
  (f_X5_begin cm C a2).bind fun r6 =>
  (itr (fun s : Int32 × CM => f_X0_takeFullest_B12 C o s.1 s.2) 2000 (0, r6)).bind fun (s12_4, c12_) =>
  (f_X5_fill c12_ C).bind fun x55 =>
  (f_X5_begin c12_ C a2).bind fun r69 =>
  (itr (fun s : Int32 × Int32 × CM => f_X0_takeFullest_B78 C o a2 a3 x55 s.1 s.2.1 s.2.2) 2000 (a3, 0, r69)).bind fun (s78_5, s78_6, c78_) =>
  some c78_

abbrev rm_X0_takeFullest : Room := { frames := 3, cells := 0, slots := 0, locals := 68 }
set_option maxHeartbeats 2000000 in
set_option maxRecDepth 20000 in
theorem c_X0_takeFullest {Z : ZC} {cm : CM} {mm : MM} {lm : LM} {C o : Nat} {a2 a3 : Int32} {r : CM} (hC : isCh C) (hO : isOf o) (h : f_X0_takeFullest cm C o a2 a3 = some r) : Ct Z yX0_takeFullest cX0_takeFullest 8 none rm_X0_takeFullest [.ref (ad Z C 0), .ref (ad Z o 0), .int a2, .int a3] cm mm lm none r mm lm := by
  refine Ct_of (own := RX0) [some (.ref (ad Z C 0)), some (.ref (ad Z o 0)), some (.int a2), some (.int a3), none, none, none, none] ⟨by decide, rfl⟩ rfl (Nat.le_of_ble_eq_true rfl) rfl (fun X hX hF => ?_)
  have g : G (fun r : CM => Fx Z X none none r mm lm) (f_X0_takeFullest cm C o a2 a3) (J Z X 8 cm mm lm 0 [some (.ref (ad Z C 0)), some (.ref (ad Z o 0)), some (.int a2), some (.int a3), none, none, none, none] []) := by
    unfold f_X0_takeFullest
    refine g_aload_n hX dX0_takeFullest_0 rfl rfl ?_
    refine g_get hX fi_0_44 (okC hC (by decide)) (e0_0 hC) rfl dX0_takeFullest_1 ?_
    refine g_aload_n hX dX0_takeFullest_4 rfl rfl ?_
    refine g_iload_n hX dX0_takeFullest_5 rfl rfl ?_
    refine g_callV hX (As := [.ref (ad Z C 0), .int a2]) (fun _ => none) (fun r => r) (fun _ => mm) (fun _ => lm) (fun r hr => c_X5_begin hC hr) mi_X5_begin ml_0_134 (okC hC (by decide)) (e0_17 hC) rfl rfl rfl rfl rfl (Nat.le_of_ble_eq_true rfl) dX0_takeFullest_6 ?_
    intro r6 hr6
    refine g_iconst hX dX0_takeFullest_9 ic_0 ?_
    refine g_istore hX dX0_takeFullest_10 (Nat.le_of_ble_eq_true rfl) rfl ?_
    refine g_loop (Hd := fun s : Int32 × CM => J Z X 8 s.2 mm lm 12 [some (.ref (ad Z C 0)), some (.ref (ad Z o 0)), some (.int a2), some (.int a3), some (.int s.1), none, none, none] []) (Ex := fun s : Int32 × CM => J Z X 8 s.2 mm lm 50 [some (.ref (ad Z C 0)), some (.ref (ad Z o 0)), some (.int a2), some (.int a3), some (.int s.1), none, none, none] []) ?_ ?_
    · rintro ⟨s12_4, c12_⟩
      show G _ (f_X0_takeFullest_B12 C o s12_4 c12_) (J Z X 8 c12_ mm lm 12 [some (.ref (ad Z C 0)), some (.ref (ad Z o 0)), some (.int a2), some (.int a3), some (.int s12_4), none, none, none] [])
      unfold f_X0_takeFullest_B12
      refine g_iload hX dX0_takeFullest_12 rfl ?_
      refine g_aload_n hX dX0_takeFullest_14 rfl rfl ?_
      refine g_get hX fi_0_48 (okC hC (by decide)) (e0_0 hC) rfl dX0_takeFullest_15 ?_
      refine g_icmp_ge hX dX0_takeFullest_18 (fun h18 => ?_) (fun h18 => ?_)
      · exact g_wk (lv0 := [some (.ref (ad Z C 0)), some (.ref (ad Z o 0)), some (.int a2), some (.int a3), some (.int s12_4), none, none, none]) ⟨rfl, rfl, rfl, rfl, rfl, trivial⟩ (g_end (fun h => h))
      · refine g_aload_n hX dX0_takeFullest_21 rfl rfl ?_
        refine g_get hX fi_0_44 (okC hC (by decide)) (e0_0 hC) rfl dX0_takeFullest_22 ?_
        refine g_aload_n hX dX0_takeFullest_25 rfl rfl ?_
        refine g_bipush hX dX0_takeFullest_26 bp_48 ?_
        refine g_aload_n hX dX0_takeFullest_28 rfl rfl ?_
        refine g_get hX fi_0_38 (okC hC (by decide)) (e0_0 hC) rfl dX0_takeFullest_29 ?_
        refine g_iload hX dX0_takeFullest_32 rfl ?_
        refine g_callV hX (As := [.int s12_4]) (fun r => (some (.int r))) (fun _ => c12_) (fun _ => mm) (fun _ => lm) (fun r hr => c_X4_get (rw0_15 hC) hr) mi_X4_get ml_0_105 (rw0_15 hC).1 (eR_0 (rw0_15 hC)) rfl rfl rfl rfl rfl (Nat.le_of_ble_eq_true rfl) dX0_takeFullest_34 ?_
        intro x34 hx34
        refine g_callV hX (As := [.int 48, .int x34]) (fun r => (some (.int r))) (fun _ => c12_) (fun _ => mm) (fun _ => lm) (fun r hr => c_X3_get hO hr) mi_X3_get ml_0_76 (okO hO (by decide)) (e3_0 hO) rfl rfl rfl rfl rfl (Nat.le_of_ble_eq_true rfl) dX0_takeFullest_37 ?_
        intro x37 hx37
        refine g_iconst hX dX0_takeFullest_40 ic_1 ?_
        refine g_callV hX (As := [.int x37, .int 1]) (fun _ => none) (fun r => r) (fun _ => mm) (fun _ => lm) (fun r hr => c_X5_add hC hr) mi_X5_add ml_0_121 (okC hC (by decide)) (e0_17 hC) rfl rfl rfl rfl rfl (Nat.le_of_ble_eq_true rfl) dX0_takeFullest_41 ?_
        intro r41 hr41
        refine g_iinc hX dX0_takeFullest_44 ic_1 rfl (Nat.le_of_ble_eq_true rfl) rfl ?_
        refine g_goto hX dX0_takeFullest_47 ?_
        exact g_wk (lv0 := [some (.ref (ad Z C 0)), some (.ref (ad Z o 0)), some (.int a2), some (.int a3), some (.int (s12_4 + 1)), none, none, none]) ⟨rfl, rfl, rfl, rfl, rfl, trivial⟩ (g_end (fun h => h))
    · rintro ⟨s12_4, c12_⟩
      show G _ _ (J Z X 8 c12_ mm lm 50 [some (.ref (ad Z C 0)), some (.ref (ad Z o 0)), some (.int a2), some (.int a3), some (.int s12_4), none, none, none] [])
      refine g_iload_n hX dX0_takeFullest_50 rfl rfl ?_
      refine g_aload_n hX dX0_takeFullest_51 rfl rfl ?_
      refine g_get hX fi_0_44 (okC hC (by decide)) (e0_0 hC) rfl dX0_takeFullest_52 ?_
      refine g_callV hX (As := []) (fun r => (some (.int r))) (fun _ => c12_) (fun _ => mm) (fun _ => lm) (fun r hr => c_X5_fill hC hr) mi_X5_fill ml_0_119 (okC hC (by decide)) (e0_17 hC) rfl rfl rfl rfl rfl (Nat.le_of_ble_eq_true rfl) dX0_takeFullest_55 ?_
      intro x55 hx55
      refine g_min hX dX0_takeFullest_58 mm_0_161 mm_min_2 mm_3 mm_min_4 rfl rfl (Nat.le_of_ble_eq_true rfl) ?_
      refine g_istore hX dX0_takeFullest_61 (Nat.le_of_ble_eq_true rfl) rfl ?_
      refine g_aload_n hX dX0_takeFullest_63 rfl rfl ?_
      refine g_get hX fi_0_44 (okC hC (by decide)) (e0_0 hC) rfl dX0_takeFullest_64 ?_
      refine g_aload_n hX dX0_takeFullest_67 rfl rfl ?_
      refine g_iload_n hX dX0_takeFullest_68 rfl rfl ?_
      refine g_callV hX (As := [.ref (ad Z C 0), .int a2]) (fun _ => none) (fun r => r) (fun _ => mm) (fun _ => lm) (fun r hr => c_X5_begin hC hr) mi_X5_begin ml_0_134 (okC hC (by decide)) (e0_17 hC) rfl rfl rfl rfl rfl (Nat.le_of_ble_eq_true rfl) dX0_takeFullest_69 ?_
      intro r69 hr69
      refine g_iload_n hX dX0_takeFullest_72 rfl rfl ?_
      refine g_istore hX dX0_takeFullest_73 (Nat.le_of_ble_eq_true rfl) rfl ?_
      refine g_iconst hX dX0_takeFullest_75 ic_0 ?_
      refine g_istore hX dX0_takeFullest_76 (Nat.le_of_ble_eq_true rfl) rfl ?_
      refine g_loop (Hd := fun s : Int32 × Int32 × CM => J Z X 8 s.2.2 mm lm 78 [some (.ref (ad Z C 0)), some (.ref (ad Z o 0)), some (.int a2), some (.int a3), some (.int (if x55 < a3 then x55 else a3)), some (.int s.1), some (.int s.2.1), none] []) (Ex := fun s : Int32 × Int32 × CM => J Z X 8 s.2.2 mm lm 173 [some (.ref (ad Z C 0)), some (.ref (ad Z o 0)), some (.int a2), some (.int a3), some (.int (if x55 < a3 then x55 else a3)), some (.int s.1), some (.int s.2.1), none] []) ?_ ?_
      · rintro ⟨s78_5, s78_6, c78_⟩
        show G _ (f_X0_takeFullest_B78 C o a2 a3 x55 s78_5 s78_6 c78_) (J Z X 8 c78_ mm lm 78 [some (.ref (ad Z C 0)), some (.ref (ad Z o 0)), some (.int a2), some (.int a3), some (.int (if x55 < a3 then x55 else a3)), some (.int s78_5), some (.int s78_6), none] [])
        unfold f_X0_takeFullest_B78
        refine g_iload hX dX0_takeFullest_78 rfl ?_
        refine g_aload_n hX dX0_takeFullest_80 rfl rfl ?_
        refine g_get hX fi_0_48 (okC hC (by decide)) (e0_0 hC) rfl dX0_takeFullest_81 ?_
        refine g_icmp_ge hX dX0_takeFullest_84 (fun h84 => ?_) (fun h84 => ?_)
        · exact g_wk (lv0 := [some (.ref (ad Z C 0)), some (.ref (ad Z o 0)), some (.int a2), some (.int a3), some (.int (if x55 < a3 then x55 else a3)), some (.int s78_5), some (.int s78_6), none]) ⟨rfl, rfl, rfl, rfl, rfl, rfl, rfl, trivial⟩ (g_end (fun h => h))
        · refine g_iload hX dX0_takeFullest_87 rfl ?_
          refine g_if_le hX dX0_takeFullest_89 (fun h89 => ?_) (fun h89 => ?_)
          · exact g_wk (lv0 := [some (.ref (ad Z C 0)), some (.ref (ad Z o 0)), some (.int a2), some (.int a3), some (.int (if x55 < a3 then x55 else a3)), some (.int s78_5), some (.int s78_6), none]) ⟨rfl, rfl, rfl, rfl, rfl, rfl, rfl, trivial⟩ (g_end (fun h => h))
          · refine g_aload_n hX dX0_takeFullest_92 rfl rfl ?_
            refine g_get hX fi_0_38 (okC hC (by decide)) (e0_0 hC) rfl dX0_takeFullest_93 ?_
            refine g_iload hX dX0_takeFullest_96 rfl ?_
            refine g_callV hX (As := [.int s78_6]) (fun r => (some (.int r))) (fun _ => c78_) (fun _ => mm) (fun _ => lm) (fun r hr => c_X4_get (rw0_15 hC) hr) mi_X4_get ml_0_105 (rw0_15 hC).1 (eR_0 (rw0_15 hC)) rfl rfl rfl rfl rfl (Nat.le_of_ble_eq_true rfl) dX0_takeFullest_98 ?_
            intro x98 hx98
            refine g_istore hX dX0_takeFullest_101 (Nat.le_of_ble_eq_true rfl) rfl ?_
            refine g_aload_n hX dX0_takeFullest_103 rfl rfl ?_
            refine g_get hX fi_0_44 (okC hC (by decide)) (e0_0 hC) rfl dX0_takeFullest_104 ?_
            refine g_aload_n hX dX0_takeFullest_107 rfl rfl ?_
            refine g_bipush hX dX0_takeFullest_108 bp_48 ?_
            refine g_iload hX dX0_takeFullest_110 rfl ?_
            refine g_callV hX (As := [.int 48, .int x98]) (fun r => (some (.int r))) (fun _ => c78_) (fun _ => mm) (fun _ => lm) (fun r hr => c_X3_get hO hr) mi_X3_get ml_0_76 (okO hO (by decide)) (e3_0 hO) rfl rfl rfl rfl rfl (Nat.le_of_ble_eq_true rfl) dX0_takeFullest_112 ?_
            intro x112 hx112
            refine g_iconst hX dX0_takeFullest_115 ic_1 ?_
            refine g_callV hX (As := [.int x112, .int 1]) (fun _ => none) (fun r => r) (fun _ => mm) (fun _ => lm) (fun r hr => c_X5_add hC hr) mi_X5_add ml_0_121 (okC hC (by decide)) (e0_17 hC) rfl rfl rfl rfl rfl (Nat.le_of_ble_eq_true rfl) dX0_takeFullest_116 ?_
            intro r116 hr116
            refine g_aload_n hX dX0_takeFullest_119 rfl rfl ?_
            refine g_get hX fi_0_44 (okC hC (by decide)) (e0_0 hC) rfl dX0_takeFullest_120 ?_
            refine g_callV hX (As := []) (fun r => (some (.int r))) (fun _ => r116) (fun _ => mm) (fun _ => lm) (fun r hr => c_X5_fill hC hr) mi_X5_fill ml_0_119 (okC hC (by decide)) (e0_17 hC) rfl rfl rfl rfl rfl (Nat.le_of_ble_eq_true rfl) dX0_takeFullest_123 ?_
            intro x123 hx123
            refine g_iload hX dX0_takeFullest_126 rfl ?_
            refine g_iadd hX dX0_takeFullest_128 ?_
            refine g_iconst hX dX0_takeFullest_129 ic_1 ?_
            refine g_isub hX dX0_takeFullest_130 ?_
            refine g_iload hX dX0_takeFullest_131 rfl ?_
            refine g_icmp_lt hX dX0_takeFullest_133 (fun h133 => ?_) (fun h133 => ?_)
            · refine g_aload_n hX dX0_takeFullest_151 rfl rfl ?_
              refine g_get hX fi_0_44 (okC hC (by decide)) (e0_0 hC) rfl dX0_takeFullest_152 ?_
              refine g_aload_n hX dX0_takeFullest_155 rfl rfl ?_
              refine g_bipush hX dX0_takeFullest_156 bp_48 ?_
              refine g_iload hX dX0_takeFullest_158 rfl ?_
              refine g_callV hX (As := [.int 48, .int x98]) (fun r => (some (.int r))) (fun _ => r116) (fun _ => mm) (fun _ => lm) (fun r hr => c_X3_get hO hr) mi_X3_get ml_0_76 (okO hO (by decide)) (e3_0 hO) rfl rfl rfl rfl rfl (Nat.le_of_ble_eq_true rfl) dX0_takeFullest_160 ?_
              intro x160 hx160
              refine g_iconst hX dX0_takeFullest_163 ic_m1 ?_
              refine g_callV hX (As := [.int x160, .int (-1)]) (fun _ => none) (fun r => r) (fun _ => mm) (fun _ => lm) (fun r hr => c_X5_add hC hr) mi_X5_add ml_0_121 (okC hC (by decide)) (e0_17 hC) rfl rfl rfl rfl rfl (Nat.le_of_ble_eq_true rfl) dX0_takeFullest_164 ?_
              intro r164 hr164
              refine g_iinc hX dX0_takeFullest_167 ic_1 rfl (Nat.le_of_ble_eq_true rfl) rfl ?_
              refine g_goto hX dX0_takeFullest_170 ?_
              exact g_wk (lv0 := [some (.ref (ad Z C 0)), some (.ref (ad Z o 0)), some (.int a2), some (.int a3), some (.int (if x55 < a3 then x55 else a3)), some (.int s78_5), some (.int (s78_6 + 1)), none]) ⟨rfl, rfl, rfl, rfl, rfl, rfl, rfl, trivial⟩ (g_end (fun h => h))
            · refine g_aload_n hX dX0_takeFullest_136 rfl rfl ?_
              refine g_iload hX dX0_takeFullest_137 rfl ?_
              refine g_iload_n hX dX0_takeFullest_139 rfl rfl ?_
              refine g_bipush hX dX0_takeFullest_140 bp_m9 ?_
              refine g_callV hX (As := [.int x98, .int a2, .int (-9)]) (fun _ => none) (fun r => r) (fun _ => mm) (fun _ => lm) (fun r hr => c_X0_take hC hr) mi_X0_take ml_0_174 (okC hC (by decide)) (e0_0 hC) rfl rfl rfl rfl rfl (Nat.le_of_ble_eq_true rfl) dX0_takeFullest_142 ?_
              intro r142 hr142
              refine g_iinc hX dX0_takeFullest_145 ic_m1 rfl (Nat.le_of_ble_eq_true rfl) rfl ?_
              refine g_goto hX dX0_takeFullest_148 ?_
              refine g_iinc hX dX0_takeFullest_167 ic_1 rfl (Nat.le_of_ble_eq_true rfl) rfl ?_
              refine g_goto hX dX0_takeFullest_170 ?_
              exact g_wk (lv0 := [some (.ref (ad Z C 0)), some (.ref (ad Z o 0)), some (.int a2), some (.int a3), some (.int (if x55 < a3 then x55 else a3)), some (.int (s78_5 + (-1))), some (.int (s78_6 + 1)), none]) ⟨rfl, rfl, rfl, rfl, rfl, rfl, rfl, trivial⟩ (g_end (fun h => h))
      · rintro ⟨s78_5, s78_6, c78_⟩
        show G _ _ (J Z X 8 c78_ mm lm 173 [some (.ref (ad Z C 0)), some (.ref (ad Z o 0)), some (.int a2), some (.int a3), some (.int (if x55 < a3 then x55 else a3)), some (.int s78_5), some (.int s78_6), none] [])
        exact g_vret hX (fun h => h) dX0_takeFullest_173
  exact g r h hF

def f_X0_takeIn (cm : CM) (C o : Nat) (a2 : Int32) : Option (CM) :=
  (f_X0_lineUp cm C a2).bind fun r2 =>
  (f_X0_freeSeats r2 C a2).bind fun x7 =>
  (f_X3_get r2 o 156 0).bind fun x23 =>
  if x23 = 0 then
    (f_X0_takeFullest r2 C o a2 (if (r2 C 0 9) < x7 then (r2 C 0 9) else x7)).bind fun r37 =>
    some r37
  else
    if x23 = 1 then
      (f_X0_takeByGroups r2 C o a2 (if (r2 C 0 9) < x7 then (r2 C 0 9) else x7)).bind fun r53 =>
      some r53
    else
      (f_X0_takeBest r2 C a2 (if (r2 C 0 9) < x7 then (r2 C 0 9) else x7)).bind fun r62 =>
      some r62

abbrev rm_X0_takeIn : Room := { frames := 4, cells := 0, slots := 0, locals := 98 }
set_option maxHeartbeats 2000000 in
set_option maxRecDepth 20000 in
theorem c_X0_takeIn {Z : ZC} {cm : CM} {mm : MM} {lm : LM} {C o : Nat} {a2 : Int32} {r : CM} (hC : isCh C) (hO : isOf o) (h : f_X0_takeIn cm C o a2 = some r) : Ct Z yX0_takeIn cX0_takeIn 5 none rm_X0_takeIn [.ref (ad Z C 0), .ref (ad Z o 0), .int a2] cm mm lm none r mm lm := by
  refine Ct_of (own := RX0) [some (.ref (ad Z C 0)), some (.ref (ad Z o 0)), some (.int a2), none, none] ⟨by decide, rfl⟩ rfl (Nat.le_of_ble_eq_true rfl) rfl (fun X hX hF => ?_)
  have g : G (fun r : CM => Fx Z X none none r mm lm) (f_X0_takeIn cm C o a2) (J Z X 5 cm mm lm 0 [some (.ref (ad Z C 0)), some (.ref (ad Z o 0)), some (.int a2), none, none] []) := by
    unfold f_X0_takeIn
    refine g_aload_n hX dX0_takeIn_0 rfl rfl ?_
    refine g_iload_n hX dX0_takeIn_1 rfl rfl ?_
    refine g_callV hX (As := [.int a2]) (fun _ => none) (fun r => r) (fun _ => mm) (fun _ => lm) (fun r hr => c_X0_lineUp hC hr) mi_X0_lineUp ml_0_156 (okC hC (by decide)) (e0_0 hC) rfl rfl rfl rfl rfl (Nat.le_of_ble_eq_true rfl) dX0_takeIn_2 ?_
    intro r2 hr2
    refine g_aload_n hX dX0_takeIn_5 rfl rfl ?_
    refine g_iload_n hX dX0_takeIn_6 rfl rfl ?_
    refine g_callV hX (As := [.int a2]) (fun r => (some (.int r))) (fun _ => r2) (fun _ => mm) (fun _ => lm) (fun r hr => c_X0_freeSeats hC hr) mi_X0_freeSeats ml_0_159 (okC hC (by decide)) (e0_0 hC) rfl rfl rfl rfl rfl (Nat.le_of_ble_eq_true rfl) dX0_takeIn_7 ?_
    intro x7 hx7
    refine g_aload_n hX dX0_takeIn_10 rfl rfl ?_
    refine g_get hX fi_0_48 (okC hC (by decide)) (e0_0 hC) rfl dX0_takeIn_11 ?_
    refine g_min hX dX0_takeIn_14 mm_0_161 mm_min_2 mm_3 mm_min_4 rfl rfl (Nat.le_of_ble_eq_true rfl) ?_
    refine g_istore_n hX dX0_takeIn_17 rfl (Nat.le_of_ble_eq_true rfl) rfl ?_
    refine g_aload_n hX dX0_takeIn_18 rfl rfl ?_
    refine g_sipush hX dX0_takeIn_19 sp_156 ?_
    refine g_iconst hX dX0_takeIn_22 ic_0 ?_
    refine g_callV hX (As := [.int 156, .int 0]) (fun r => (some (.int r))) (fun _ => r2) (fun _ => mm) (fun _ => lm) (fun r hr => c_X3_get hO hr) mi_X3_get ml_0_76 (okO hO (by decide)) (e3_0 hO) rfl rfl rfl rfl rfl (Nat.le_of_ble_eq_true rfl) dX0_takeIn_23 ?_
    intro x23 hx23
    refine g_istore hX dX0_takeIn_26 (Nat.le_of_ble_eq_true rfl) rfl ?_
    refine g_iload hX dX0_takeIn_28 rfl ?_
    refine g_if_ne hX dX0_takeIn_30 (fun h30 => ?_) (fun h30 => ?_)
    · refine g_aload_n hX dX0_takeIn_33 rfl rfl ?_
      refine g_aload_n hX dX0_takeIn_34 rfl rfl ?_
      refine g_iload_n hX dX0_takeIn_35 rfl rfl ?_
      refine g_iload_n hX dX0_takeIn_36 rfl rfl ?_
      refine g_callV hX (As := [.ref (ad Z o 0), .int a2, .int (if (r2 C 0 9) < x7 then (r2 C 0 9) else x7)]) (fun _ => none) (fun r => r) (fun _ => mm) (fun _ => lm) (fun r hr => c_X0_takeFullest hC hO hr) mi_X0_takeFullest ml_0_164 (okC hC (by decide)) (e0_0 hC) rfl rfl rfl rfl rfl (Nat.le_of_ble_eq_true rfl) dX0_takeIn_37 ?_
      intro r37 hr37
      refine g_goto hX dX0_takeIn_40 ?_
      exact g_vret hX (fun h => h) dX0_takeIn_65
    · refine g_iload hX dX0_takeIn_43 rfl ?_
      refine g_iconst hX dX0_takeIn_45 ic_1 ?_
      refine g_icmp_ne hX dX0_takeIn_46 (fun h46 => ?_) (fun h46 => ?_)
      · refine g_aload_n hX dX0_takeIn_49 rfl rfl ?_
        refine g_aload_n hX dX0_takeIn_50 rfl rfl ?_
        refine g_iload_n hX dX0_takeIn_51 rfl rfl ?_
        refine g_iload_n hX dX0_takeIn_52 rfl rfl ?_
        refine g_callV hX (As := [.ref (ad Z o 0), .int a2, .int (if (r2 C 0 9) < x7 then (r2 C 0 9) else x7)]) (fun _ => none) (fun r => r) (fun _ => mm) (fun _ => lm) (fun r hr => c_X0_takeByGroups hC hO hr) mi_X0_takeByGroups ml_0_168 (okC hC (by decide)) (e0_0 hC) rfl rfl rfl rfl rfl (Nat.le_of_ble_eq_true rfl) dX0_takeIn_53 ?_
        intro r53 hr53
        refine g_goto hX dX0_takeIn_56 ?_
        exact g_vret hX (fun h => h) dX0_takeIn_65
      · refine g_aload_n hX dX0_takeIn_59 rfl rfl ?_
        refine g_iload_n hX dX0_takeIn_60 rfl rfl ?_
        refine g_iload_n hX dX0_takeIn_61 rfl rfl ?_
        refine g_callV hX (As := [.int a2, .int (if (r2 C 0 9) < x7 then (r2 C 0 9) else x7)]) (fun _ => none) (fun r => r) (fun _ => mm) (fun _ => lm) (fun r hr => c_X0_takeBest hC hr) mi_X0_takeBest ml_0_171 (okC hC (by decide)) (e0_0 hC) rfl rfl rfl rfl rfl (Nat.le_of_ble_eq_true rfl) dX0_takeIn_62 ?_
        intro r62 hr62
        exact g_vret hX (fun h => h) dX0_takeIn_65
  exact g r h hF

def f_X0_bestWithoutSeat_B8 (cm : CM) (C : Nat) (x2 : Int32) (s8_3 : Int32) : Option (((Int32) ⊕ (Int32)) ⊕ (Int32)) :=
  if (cm C 0 10) ≤ s8_3 then
    some (.inl (.inl s8_3))
  else
    (f_X0_personAt cm C s8_3).bind fun x18 =>
    if ((x2 >>> (x18 &&& 31)) &&& 1) = 1 then
      some (.inl (.inr x18))
    else
      some (.inr (s8_3 + 1))

def f_X0_bestWithoutSeat (cm : CM) (C : Nat) (a1 : Int32) : Option (Int32) :=
  (f_X0_withoutSeat cm C a1).bind fun x2 =>
  (itr (fun s : Int32 => f_X0_bestWithoutSeat_B8 cm C x2 s) 2000 0).bind fun ou => match ou with
  | .inr r => some r
  | .inl s8_3 =>
  some (-9)

abbrev rm_X0_bestWithoutSeat : Room := { frames := 2, cells := 0, slots := 0, locals := 42 }
set_option maxHeartbeats 2000000 in
set_option maxRecDepth 20000 in
theorem c_X0_bestWithoutSeat {Z : ZC} {cm : CM} {mm : MM} {lm : LM} {C : Nat} {a1 : Int32} {r : Int32} (hC : isCh C) (h : f_X0_bestWithoutSeat cm C a1 = some r) : Ct Z yX0_bestWithoutSeat cX0_bestWithoutSeat 5 (some .int) rm_X0_bestWithoutSeat [.ref (ad Z C 0), .int a1] cm mm lm (some (.int r)) cm mm lm := by
  refine Ct_of (own := RX0) [some (.ref (ad Z C 0)), some (.int a1), none, none, none] ⟨by decide, rfl⟩ rfl (Nat.le_of_ble_eq_true rfl) rfl (fun X hX hF => ?_)
  have g : G (fun r : Int32 => Fx Z X (some .int) (some (.int r)) cm mm lm) (f_X0_bestWithoutSeat cm C a1) (J Z X 5 cm mm lm 0 [some (.ref (ad Z C 0)), some (.int a1), none, none, none] []) := by
    unfold f_X0_bestWithoutSeat
    refine g_aload_n hX dX0_bestWithoutSeat_0 rfl rfl ?_
    refine g_iload_n hX dX0_bestWithoutSeat_1 rfl rfl ?_
    refine g_callV hX (As := [.int a1]) (fun r => (some (.int r))) (fun _ => cm) (fun _ => mm) (fun _ => lm) (fun r hr => c_X0_withoutSeat hC hr) mi_X0_withoutSeat ml_0_128 (okC hC (by decide)) (e0_0 hC) rfl rfl rfl rfl rfl (Nat.le_of_ble_eq_true rfl) dX0_bestWithoutSeat_2 ?_
    intro x2 hx2
    refine g_istore_n hX dX0_bestWithoutSeat_5 rfl (Nat.le_of_ble_eq_true rfl) rfl ?_
    refine g_iconst hX dX0_bestWithoutSeat_6 ic_0 ?_
    refine g_istore_n hX dX0_bestWithoutSeat_7 rfl (Nat.le_of_ble_eq_true rfl) rfl ?_
    refine g_loop (Hd := fun s : Int32 => J Z X 5 cm mm lm 8 [some (.ref (ad Z C 0)), some (.int a1), some (.int x2), some (.int s), none] []) (Ex := fun ou : (Int32) ⊕ (Int32) => match ou with | .inl e => J Z X 5 cm mm lm 42 [some (.ref (ad Z C 0)), some (.int a1), some (.int x2), some (.int e), none] [] | .inr r => Fx Z X (some .int) (some (.int r)) cm mm lm) ?_ ?_
    · intro s8_3
      show G _ (f_X0_bestWithoutSeat_B8 cm C x2 s8_3) (J Z X 5 cm mm lm 8 [some (.ref (ad Z C 0)), some (.int a1), some (.int x2), some (.int s8_3), none] [])
      unfold f_X0_bestWithoutSeat_B8
      refine g_iload_n hX dX0_bestWithoutSeat_8 rfl rfl ?_
      refine g_aload_n hX dX0_bestWithoutSeat_9 rfl rfl ?_
      refine g_get hX fi_0_52 (okC hC (by decide)) (e0_0 hC) rfl dX0_bestWithoutSeat_10 ?_
      refine g_icmp_ge hX dX0_bestWithoutSeat_13 (fun h13 => ?_) (fun h13 => ?_)
      · exact g_wk (lv0 := [some (.ref (ad Z C 0)), some (.int a1), some (.int x2), some (.int s8_3), none]) ⟨rfl, rfl, rfl, rfl, trivial⟩ (g_end (fun h => h))
      · refine g_aload_n hX dX0_bestWithoutSeat_16 rfl rfl ?_
        refine g_iload_n hX dX0_bestWithoutSeat_17 rfl rfl ?_
        refine g_callV hX (As := [.int s8_3]) (fun r => (some (.int r))) (fun _ => cm) (fun _ => mm) (fun _ => lm) (fun r hr => c_X0_personAt hC hr) mi_X0_personAt ml_0_90 (okC hC (by decide)) (e0_0 hC) rfl rfl rfl rfl rfl (Nat.le_of_ble_eq_true rfl) dX0_bestWithoutSeat_18 ?_
        intro x18 hx18
        refine g_istore hX dX0_bestWithoutSeat_21 (Nat.le_of_ble_eq_true rfl) rfl ?_
        refine g_iload_n hX dX0_bestWithoutSeat_23 rfl rfl ?_
        refine g_iload hX dX0_bestWithoutSeat_24 rfl ?_
        refine g_ishr hX dX0_bestWithoutSeat_26 ?_
        refine g_iconst hX dX0_bestWithoutSeat_27 ic_1 ?_
        refine g_iand hX dX0_bestWithoutSeat_28 ?_
        refine g_iconst hX dX0_bestWithoutSeat_29 ic_1 ?_
        refine g_icmp_ne hX dX0_bestWithoutSeat_30 (fun h30 => ?_) (fun h30 => ?_)
        · refine g_iload hX dX0_bestWithoutSeat_33 rfl ?_
          exact g_iret hX (fun h => h) dX0_bestWithoutSeat_35
        · refine g_iinc hX dX0_bestWithoutSeat_36 ic_1 rfl (Nat.le_of_ble_eq_true rfl) rfl ?_
          refine g_goto hX dX0_bestWithoutSeat_39 ?_
          exact g_wk (lv0 := [some (.ref (ad Z C 0)), some (.int a1), some (.int x2), some (.int (s8_3 + 1)), none]) ⟨rfl, rfl, rfl, rfl, trivial⟩ (g_end (fun h => h))
    · rintro (s8_3 | r)
      · show G _ _ (J Z X 5 cm mm lm 42 [some (.ref (ad Z C 0)), some (.int a1), some (.int x2), some (.int s8_3), none] [])
        refine g_bipush hX dX0_bestWithoutSeat_42 bp_m9 ?_
        exact g_iret hX (fun h => h) dX0_bestWithoutSeat_44
      · exact g_end (fun h => h)
  exact g r h hF

def f_X0_findReceiver_B17 (cm : CM) (C : Nat) (o : Nat) (s17_3 : Int32) (s17_4 : Int32) (s17_5 : Int32) : Option (((Int32 × Int32 × Int32) ⊕ (Int32)) ⊕ (Int32 × Int32 × Int32)) :=
  if 4 ≤ s17_5 then
    some (.inl (.inl (s17_3, s17_4, s17_5)))
  else
    (f_X6_isKind s17_4).bind fun x25 =>
    if x25 = 0 then
      some (.inl (.inr (-9)))
    else
      if ((s17_3 >>> (s17_4 &&& 31)) &&& 1) = 1 then
        some (.inl (.inr (-9)))
      else
        (f_X0_bestWithoutSeat cm C s17_4).bind fun x47 =>
        if x47 = (-9) then
          (f_X3_get cm o 148 s17_4).bind fun x75 =>
          some (.inr (s17_3 ||| (1 <<< (s17_4 &&& 31)), x75, s17_5 + 1))
        else
          some (.inl (.inr x47))

def f_X0_findReceiver (cm : CM) (C o : Nat) (a2 : Int32) : Option (Int32) :=
  (f_X3_get cm o 148 a2).bind fun x9 =>
  (itr (fun s : Int32 × Int32 × Int32 => f_X0_findReceiver_B17 cm C o s.1 s.2.1 s.2.2) 2000 (1 <<< (a2 &&& 31), x9, 0)).bind fun ou => match ou with
  | .inr r => some r
  | .inl (s17_3, s17_4, s17_5) =>
  some (-9)

abbrev rm_X0_findReceiver : Room := { frames := 3, cells := 0, slots := 0, locals := 66 }
set_option maxHeartbeats 2000000 in
set_option maxRecDepth 20000 in
theorem c_X0_findReceiver {Z : ZC} {cm : CM} {mm : MM} {lm : LM} {C o : Nat} {a2 : Int32} {r : Int32} (hC : isCh C) (hO : isOf o) (h : f_X0_findReceiver cm C o a2 = some r) : Ct Z yX0_findReceiver cX0_findReceiver 7 (some .int) rm_X0_findReceiver [.ref (ad Z C 0), .ref (ad Z o 0), .int a2] cm mm lm (some (.int r)) cm mm lm := by
  refine Ct_of (own := RX0) [some (.ref (ad Z C 0)), some (.ref (ad Z o 0)), some (.int a2), none, none, none, none] ⟨by decide, rfl⟩ rfl (Nat.le_of_ble_eq_true rfl) rfl (fun X hX hF => ?_)
  have g : G (fun r : Int32 => Fx Z X (some .int) (some (.int r)) cm mm lm) (f_X0_findReceiver cm C o a2) (J Z X 7 cm mm lm 0 [some (.ref (ad Z C 0)), some (.ref (ad Z o 0)), some (.int a2), none, none, none, none] []) := by
    unfold f_X0_findReceiver
    refine g_iconst hX dX0_findReceiver_0 ic_1 ?_
    refine g_iload_n hX dX0_findReceiver_1 rfl rfl ?_
    refine g_ishl hX dX0_findReceiver_2 ?_
    refine g_istore_n hX dX0_findReceiver_3 rfl (Nat.le_of_ble_eq_true rfl) rfl ?_
    refine g_aload_n hX dX0_findReceiver_4 rfl rfl ?_
    refine g_sipush hX dX0_findReceiver_5 sp_148 ?_
    refine g_iload_n hX dX0_findReceiver_8 rfl rfl ?_
    refine g_callV hX (As := [.int 148, .int a2]) (fun r => (some (.int r))) (fun _ => cm) (fun _ => mm) (fun _ => lm) (fun r hr => c_X3_get hO hr) mi_X3_get ml_0_76 (okO hO (by decide)) (e3_0 hO) rfl rfl rfl rfl rfl (Nat.le_of_ble_eq_true rfl) dX0_findReceiver_9 ?_
    intro x9 hx9
    refine g_istore hX dX0_findReceiver_12 (Nat.le_of_ble_eq_true rfl) rfl ?_
    refine g_iconst hX dX0_findReceiver_14 ic_0 ?_
    refine g_istore hX dX0_findReceiver_15 (Nat.le_of_ble_eq_true rfl) rfl ?_
    refine g_loop (Hd := fun s : Int32 × Int32 × Int32 => J Z X 7 cm mm lm 17 [some (.ref (ad Z C 0)), some (.ref (ad Z o 0)), some (.int a2), some (.int s.1), some (.int s.2.1), some (.int s.2.2), none] []) (Ex := fun ou : (Int32 × Int32 × Int32) ⊕ (Int32) => match ou with | .inl e => J Z X 7 cm mm lm 86 [some (.ref (ad Z C 0)), some (.ref (ad Z o 0)), some (.int a2), some (.int e.1), some (.int e.2.1), some (.int e.2.2), none] [] | .inr r => Fx Z X (some .int) (some (.int r)) cm mm lm) ?_ ?_
    · rintro ⟨s17_3, s17_4, s17_5⟩
      show G _ (f_X0_findReceiver_B17 cm C o s17_3 s17_4 s17_5) (J Z X 7 cm mm lm 17 [some (.ref (ad Z C 0)), some (.ref (ad Z o 0)), some (.int a2), some (.int s17_3), some (.int s17_4), some (.int s17_5), none] [])
      unfold f_X0_findReceiver_B17
      refine g_iload hX dX0_findReceiver_17 rfl ?_
      refine g_iconst hX dX0_findReceiver_19 ic_4 ?_
      refine g_icmp_ge hX dX0_findReceiver_20 (fun h20 => ?_) (fun h20 => ?_)
      · exact g_wk (lv0 := [some (.ref (ad Z C 0)), some (.ref (ad Z o 0)), some (.int a2), some (.int s17_3), some (.int s17_4), some (.int s17_5), none]) ⟨rfl, rfl, rfl, rfl, rfl, rfl, trivial⟩ (g_end (fun h => h))
      · refine g_iload hX dX0_findReceiver_23 rfl ?_
        refine g_callSN hX (As := [.int s17_4]) (fun r => (some (.int r))) (fun _ => cm) (fun _ => mm) (fun _ => lm) (fun r hr => c_X6_isKind  hr) mi_X6_isKind (fun _ h => h.2) rfl rfl rfl (Nat.le_of_ble_eq_true rfl) dX0_findReceiver_25 ?_
        intro x25 hx25
        refine g_if_eq hX dX0_findReceiver_28 (fun h28 => ?_) (fun h28 => ?_)
        · refine g_bipush hX dX0_findReceiver_41 bp_m9 ?_
          exact g_iret hX (fun h => h) dX0_findReceiver_43
        · refine g_iload_n hX dX0_findReceiver_31 rfl rfl ?_
          refine g_iload hX dX0_findReceiver_32 rfl ?_
          refine g_ishr hX dX0_findReceiver_34 ?_
          refine g_iconst hX dX0_findReceiver_35 ic_1 ?_
          refine g_iand hX dX0_findReceiver_36 ?_
          refine g_iconst hX dX0_findReceiver_37 ic_1 ?_
          refine g_icmp_ne hX dX0_findReceiver_38 (fun h38 => ?_) (fun h38 => ?_)
          · refine g_bipush hX dX0_findReceiver_41 bp_m9 ?_
            exact g_iret hX (fun h => h) dX0_findReceiver_43
          · refine g_aload_n hX dX0_findReceiver_44 rfl rfl ?_
            refine g_iload hX dX0_findReceiver_45 rfl ?_
            refine g_callV hX (As := [.int s17_4]) (fun r => (some (.int r))) (fun _ => cm) (fun _ => mm) (fun _ => lm) (fun r hr => c_X0_bestWithoutSeat hC hr) mi_X0_bestWithoutSeat ml_0_196 (okC hC (by decide)) (e0_0 hC) rfl rfl rfl rfl rfl (Nat.le_of_ble_eq_true rfl) dX0_findReceiver_47 ?_
            intro x47 hx47
            refine g_istore hX dX0_findReceiver_50 (Nat.le_of_ble_eq_true rfl) rfl ?_
            refine g_iload hX dX0_findReceiver_52 rfl ?_
            refine g_bipush hX dX0_findReceiver_54 bp_m9 ?_
            refine g_icmp_eq hX dX0_findReceiver_56 (fun h56 => ?_) (fun h56 => ?_)
            · refine g_iload_n hX dX0_findReceiver_62 rfl rfl ?_
              refine g_iconst hX dX0_findReceiver_63 ic_1 ?_
              refine g_iload hX dX0_findReceiver_64 rfl ?_
              refine g_ishl hX dX0_findReceiver_66 ?_
              refine g_ior hX dX0_findReceiver_67 ?_
              refine g_istore_n hX dX0_findReceiver_68 rfl (Nat.le_of_ble_eq_true rfl) rfl ?_
              refine g_aload_n hX dX0_findReceiver_69 rfl rfl ?_
              refine g_sipush hX dX0_findReceiver_70 sp_148 ?_
              refine g_iload hX dX0_findReceiver_73 rfl ?_
              refine g_callV hX (As := [.int 148, .int s17_4]) (fun r => (some (.int r))) (fun _ => cm) (fun _ => mm) (fun _ => lm) (fun r hr => c_X3_get hO hr) mi_X3_get ml_0_76 (okO hO (by decide)) (e3_0 hO) rfl rfl rfl rfl rfl (Nat.le_of_ble_eq_true rfl) dX0_findReceiver_75 ?_
              intro x75 hx75
              refine g_istore hX dX0_findReceiver_78 (Nat.le_of_ble_eq_true rfl) rfl ?_
              refine g_iinc hX dX0_findReceiver_80 ic_1 rfl (Nat.le_of_ble_eq_true rfl) rfl ?_
              refine g_goto hX dX0_findReceiver_83 ?_
              exact g_wk (lv0 := [some (.ref (ad Z C 0)), some (.ref (ad Z o 0)), some (.int a2), some (.int (s17_3 ||| (1 <<< (s17_4 &&& 31)))), some (.int x75), some (.int (s17_5 + 1)), none]) ⟨rfl, rfl, rfl, rfl, rfl, rfl, trivial⟩ (g_end (fun h => h))
            · refine g_iload hX dX0_findReceiver_59 rfl ?_
              exact g_iret hX (fun h => h) dX0_findReceiver_61
    · rintro (⟨s17_3, s17_4, s17_5⟩ | r)
      · show G _ _ (J Z X 7 cm mm lm 86 [some (.ref (ad Z C 0)), some (.ref (ad Z o 0)), some (.int a2), some (.int s17_3), some (.int s17_4), some (.int s17_5), none] [])
        refine g_bipush hX dX0_findReceiver_86 bp_m9 ?_
        exact g_iret hX (fun h => h) dX0_findReceiver_88
      · exact g_end (fun h => h)
  exact g r h hF

def f_X0_passOn_B20 (C : Nat) (o : Nat) (a2 : Int32) (x7 : Int32) (x12 : Int32) (s20_4 : Int32) (c20_ : CM) : Option (((Int32 × CM) ⊕ (CM)) ⊕ (Int32 × CM)) :=
  if (x7 - x12) ≤ s20_4 then
    some (.inl (.inl (s20_4, c20_)))
  else
    (f_X0_findReceiver c20_ C o a2).bind fun x29 =>
    if x29 = (-9) then
      some (.inl (.inr c20_))
    else
      (f_X0_take c20_ C x29 a2 (-9)).bind fun r48 =>
      (f_X4_set r48 C 13 16 x29 1).bind fun r58 =>
      some (.inr (s20_4 + 1, r58))

def f_X0_passOn (cm : CM) (C o : Nat) (a2 : Int32) : Option (CM) :=
  if a2 = 0 then
    some cm
  else
    (f_X0_freeSeats cm C a2).bind fun x7 =>
    (f_X0_countTaken cm C a2).bind fun x12 =>
    (itr (fun s : Int32 × CM => f_X0_passOn_B20 C o a2 x7 x12 s.1 s.2) 2000 (0, cm)).bind fun ou => match ou with
    | .inr r => some r
    | .inl (s20_4, c20_) =>
    some c20_

abbrev rm_X0_passOn : Room := { frames := 4, cells := 0, slots := 0, locals := 92 }
set_option maxHeartbeats 2000000 in
set_option maxRecDepth 20000 in
theorem c_X0_passOn {Z : ZC} {cm : CM} {mm : MM} {lm : LM} {C o : Nat} {a2 : Int32} {r : CM} (hC : isCh C) (hO : isOf o) (h : f_X0_passOn cm C o a2 = some r) : Ct Z yX0_passOn cX0_passOn 6 none rm_X0_passOn [.ref (ad Z C 0), .ref (ad Z o 0), .int a2] cm mm lm none r mm lm := by
  refine Ct_of (own := RX0) [some (.ref (ad Z C 0)), some (.ref (ad Z o 0)), some (.int a2), none, none, none] ⟨by decide, rfl⟩ rfl (Nat.le_of_ble_eq_true rfl) rfl (fun X hX hF => ?_)
  have g : G (fun r : CM => Fx Z X none none r mm lm) (f_X0_passOn cm C o a2) (J Z X 6 cm mm lm 0 [some (.ref (ad Z C 0)), some (.ref (ad Z o 0)), some (.int a2), none, none, none] []) := by
    unfold f_X0_passOn
    refine g_iload_n hX dX0_passOn_0 rfl rfl ?_
    refine g_if_ne hX dX0_passOn_1 (fun h1 => ?_) (fun h1 => ?_)
    · exact g_vret hX (fun h => h) dX0_passOn_4
    · refine g_aload_n hX dX0_passOn_5 rfl rfl ?_
      refine g_iload_n hX dX0_passOn_6 rfl rfl ?_
      refine g_callV hX (As := [.int a2]) (fun r => (some (.int r))) (fun _ => cm) (fun _ => mm) (fun _ => lm) (fun r hr => c_X0_freeSeats hC hr) mi_X0_freeSeats ml_0_159 (okC hC (by decide)) (e0_0 hC) rfl rfl rfl rfl rfl (Nat.le_of_ble_eq_true rfl) dX0_passOn_7 ?_
      intro x7 hx7
      refine g_aload_n hX dX0_passOn_10 rfl rfl ?_
      refine g_iload_n hX dX0_passOn_11 rfl rfl ?_
      refine g_callV hX (As := [.int a2]) (fun r => (some (.int r))) (fun _ => cm) (fun _ => mm) (fun _ => lm) (fun r hr => c_X0_countTaken hC hr) mi_X0_countTaken ml_0_186 (okC hC (by decide)) (e0_0 hC) rfl rfl rfl rfl rfl (Nat.le_of_ble_eq_true rfl) dX0_passOn_12 ?_
      intro x12 hx12
      refine g_isub hX dX0_passOn_15 ?_
      refine g_istore_n hX dX0_passOn_16 rfl (Nat.le_of_ble_eq_true rfl) rfl ?_
      refine g_iconst hX dX0_passOn_17 ic_0 ?_
      refine g_istore hX dX0_passOn_18 (Nat.le_of_ble_eq_true rfl) rfl ?_
      refine g_loop (Hd := fun s : Int32 × CM => J Z X 6 s.2 mm lm 20 [some (.ref (ad Z C 0)), some (.ref (ad Z o 0)), some (.int a2), some (.int (x7 - x12)), some (.int s.1), none] []) (Ex := fun ou : (Int32 × CM) ⊕ (CM) => match ou with | .inl e => J Z X 6 e.2 mm lm 67 [some (.ref (ad Z C 0)), some (.ref (ad Z o 0)), some (.int a2), some (.int (x7 - x12)), some (.int e.1), none] [] | .inr r => Fx Z X none none r mm lm) ?_ ?_
      · rintro ⟨s20_4, c20_⟩
        show G _ (f_X0_passOn_B20 C o a2 x7 x12 s20_4 c20_) (J Z X 6 c20_ mm lm 20 [some (.ref (ad Z C 0)), some (.ref (ad Z o 0)), some (.int a2), some (.int (x7 - x12)), some (.int s20_4), none] [])
        unfold f_X0_passOn_B20
        refine g_iload hX dX0_passOn_20 rfl ?_
        refine g_iload_n hX dX0_passOn_22 rfl rfl ?_
        refine g_icmp_ge hX dX0_passOn_23 (fun h23 => ?_) (fun h23 => ?_)
        · exact g_wk (lv0 := [some (.ref (ad Z C 0)), some (.ref (ad Z o 0)), some (.int a2), some (.int (x7 - x12)), some (.int s20_4), none]) ⟨rfl, rfl, rfl, rfl, rfl, trivial⟩ (g_end (fun h => h))
        · refine g_aload_n hX dX0_passOn_26 rfl rfl ?_
          refine g_aload_n hX dX0_passOn_27 rfl rfl ?_
          refine g_iload_n hX dX0_passOn_28 rfl rfl ?_
          refine g_callV hX (As := [.ref (ad Z o 0), .int a2]) (fun r => (some (.int r))) (fun _ => c20_) (fun _ => mm) (fun _ => lm) (fun r hr => c_X0_findReceiver hC hO hr) mi_X0_findReceiver ml_0_189 (okC hC (by decide)) (e0_0 hC) rfl rfl rfl rfl rfl (Nat.le_of_ble_eq_true rfl) dX0_passOn_29 ?_
          intro x29 hx29
          refine g_istore hX dX0_passOn_32 (Nat.le_of_ble_eq_true rfl) rfl ?_
          refine g_iload hX dX0_passOn_34 rfl ?_
          refine g_bipush hX dX0_passOn_36 bp_m9 ?_
          refine g_icmp_ne hX dX0_passOn_38 (fun h38 => ?_) (fun h38 => ?_)
          · exact g_vret hX (fun h => h) dX0_passOn_41
          · refine g_aload_n hX dX0_passOn_42 rfl rfl ?_
            refine g_iload hX dX0_passOn_43 rfl ?_
            refine g_iload_n hX dX0_passOn_45 rfl rfl ?_
            refine g_bipush hX dX0_passOn_46 bp_m9 ?_
            refine g_callV hX (As := [.int x29, .int a2, .int (-9)]) (fun _ => none) (fun r => r) (fun _ => mm) (fun _ => lm) (fun r hr => c_X0_take hC hr) mi_X0_take ml_0_174 (okC hC (by decide)) (e0_0 hC) rfl rfl rfl rfl rfl (Nat.le_of_ble_eq_true rfl) dX0_passOn_48 ?_
            intro r48 hr48
            refine g_aload_n hX dX0_passOn_51 rfl rfl ?_
            refine g_get hX fi_0_35 (okC hC (by decide)) (e0_0 hC) rfl dX0_passOn_52 ?_
            refine g_iload hX dX0_passOn_55 rfl ?_
            refine g_iconst hX dX0_passOn_57 ic_1 ?_
            refine g_callV hX (As := [.int x29, .int 1]) (fun _ => none) (fun r => r) (fun _ => mm) (fun _ => lm) (fun r hr => c_X4_set (rw0_13 hC) hr) mi_X4_set ml_0_101 (rw0_13 hC).1 (eR_0 (rw0_13 hC)) rfl rfl rfl rfl rfl (Nat.le_of_ble_eq_true rfl) dX0_passOn_58 ?_
            intro r58 hr58
            refine g_iinc hX dX0_passOn_61 ic_1 rfl (Nat.le_of_ble_eq_true rfl) rfl ?_
            refine g_goto hX dX0_passOn_64 ?_
            exact g_wk (lv0 := [some (.ref (ad Z C 0)), some (.ref (ad Z o 0)), some (.int a2), some (.int (x7 - x12)), some (.int (s20_4 + 1)), none]) ⟨rfl, rfl, rfl, rfl, rfl, trivial⟩ (g_end (fun h => h))
      · rintro (⟨s20_4, c20_⟩ | r)
        · show G _ _ (J Z X 6 c20_ mm lm 67 [some (.ref (ad Z C 0)), some (.ref (ad Z o 0)), some (.int a2), some (.int (x7 - x12)), some (.int s20_4), none] [])
          exact g_vret hX (fun h => h) dX0_passOn_67
        · exact g_end (fun h => h)
  exact g r h hF

def f_X0_make_B56 (C : Nat) (o : Nat) (s56_2 : Int32) (c56_ : CM) : Option ((Int32 × CM) ⊕ (Int32 × CM)) :=
  if 4 ≤ s56_2 then
    some (.inl (s56_2, c56_))
  else
    (f_X3_get c56_ o 152 s56_2).bind fun x68 =>
    (f_X0_takeIn c56_ C o x68).bind fun r71 =>
    some (.inr (s56_2 + 1, r71))

def f_X0_make_B82 (C : Nat) (o : Nat) (s82_2 : Int32) (c82_ : CM) : Option ((Int32 × CM) ⊕ (Int32 × CM)) :=
  if 4 ≤ s82_2 then
    some (.inl (s82_2, c82_))
  else
    (f_X3_get c82_ o 152 s82_2).bind fun x94 =>
    (f_X0_passOn c82_ C o x94).bind fun r97 =>
    some (.inr (s82_2 + 1, r97))

def f_X0_make (cm : CM) (C o : Nat) : Option (CM) :=
  (f_X3_people cm o).bind fun x2 =>
  (f_X0_rankAll (u3 cm C 0 (upd (cm C 0) 10 x2)) C o).bind fun r10 =>
  (f_X0_findFree r10 C o).bind fun r15 =>
  (f_X0_findCandidates r15 C o).bind fun r20 =>
  (f_X4_fill (u3 r20 C 0 (upd (r20 C 0) 11 0)) C 9 16 (-9)).bind fun r34 =>
  (f_X4_fill r34 C 11 16 (-9)).bind fun r43 =>
  (f_X4_fill r43 C 13 16 0).bind fun r51 =>
  (itr (fun s : Int32 × CM => f_X0_make_B56 C o s.1 s.2) 2000 (0, r51)).bind fun (s56_2, c56_) =>
  (itr (fun s : Int32 × CM => f_X0_make_B82 C o s.1 s.2) 2000 (0, c56_)).bind fun (s82_2, c82_) =>
  some c82_

abbrev rm_X0_make : Room := { frames := 5, cells := 0, slots := 0, locals := 122 }
set_option maxHeartbeats 2000000 in
set_option maxRecDepth 20000 in
theorem c_X0_make {Z : ZC} {cm : CM} {mm : MM} {lm : LM} {C o : Nat} {r : CM} (hC : isCh C) (hO : isOf o) (h : f_X0_make cm C o = some r) : Ct Z yX0_make cX0_make 3 none rm_X0_make [.ref (ad Z C 0), .ref (ad Z o 0)] cm mm lm none r mm lm := by
  refine Ct_of (own := RX0) [some (.ref (ad Z C 0)), some (.ref (ad Z o 0)), none] ⟨by decide, rfl⟩ rfl (Nat.le_of_ble_eq_true rfl) rfl (fun X hX hF => ?_)
  have g : G (fun r : CM => Fx Z X none none r mm lm) (f_X0_make cm C o) (J Z X 3 cm mm lm 0 [some (.ref (ad Z C 0)), some (.ref (ad Z o 0)), none] []) := by
    unfold f_X0_make
    refine g_aload_n hX dX0_make_0 rfl rfl ?_
    refine g_aload_n hX dX0_make_1 rfl rfl ?_
    refine g_callV hX (As := []) (fun r => (some (.int r))) (fun _ => cm) (fun _ => mm) (fun _ => lm) (fun r hr => c_X3_people hO hr) mi_X3_people ml_0_58 (okO hO (by decide)) (e3_0 hO) rfl rfl rfl rfl rfl (Nat.le_of_ble_eq_true rfl) dX0_make_2 ?_
    intro x2 hx2
    refine g_putC hX fi_0_52 (okC hC (by decide)) (n32C hC) (s0_0 hC Z) rfl (Nat.le_of_ble_eq_true rfl) tyX0_ok nmX0 rfl rfl rfl rfl dX0_make_5 ?_
    refine g_aload_n hX dX0_make_8 rfl rfl ?_
    refine g_aload_n hX dX0_make_9 rfl rfl ?_
    refine g_callV hX (As := [.ref (ad Z o 0)]) (fun _ => none) (fun r => r) (fun _ => mm) (fun _ => lm) (fun r hr => c_X0_rankAll hC hO hr) mi_X0_rankAll ml_0_63 (okC hC (by decide)) (e0_0 hC) rfl rfl rfl rfl rfl (Nat.le_of_ble_eq_true rfl) dX0_make_10 ?_
    intro r10 hr10
    refine g_aload_n hX dX0_make_13 rfl rfl ?_
    refine g_aload_n hX dX0_make_14 rfl rfl ?_
    refine g_callV hX (As := [.ref (ad Z o 0)]) (fun _ => none) (fun r => r) (fun _ => mm) (fun _ => lm) (fun r hr => c_X0_findFree hC hO hr) mi_X0_findFree ml_0_67 (okC hC (by decide)) (e0_0 hC) rfl rfl rfl rfl rfl (Nat.le_of_ble_eq_true rfl) dX0_make_15 ?_
    intro r15 hr15
    refine g_aload_n hX dX0_make_18 rfl rfl ?_
    refine g_aload_n hX dX0_make_19 rfl rfl ?_
    refine g_callV hX (As := [.ref (ad Z o 0)]) (fun _ => none) (fun r => r) (fun _ => mm) (fun _ => lm) (fun r hr => c_X0_findCandidates hC hO hr) mi_X0_findCandidates ml_0_70 (okC hC (by decide)) (e0_0 hC) rfl rfl rfl rfl rfl (Nat.le_of_ble_eq_true rfl) dX0_make_20 ?_
    intro r20 hr20
    refine g_aload_n hX dX0_make_23 rfl rfl ?_
    refine g_iconst hX dX0_make_24 ic_0 ?_
    refine g_putC hX fi_0_55 (okC hC (by decide)) (n32C hC) (s0_0 hC Z) rfl (Nat.le_of_ble_eq_true rfl) tyX0_ok nmX0 rfl rfl rfl rfl dX0_make_25 ?_
    refine g_aload_n hX dX0_make_28 rfl rfl ?_
    refine g_get hX fi_0_29 (okC hC (by decide)) (e0_0 hC) rfl dX0_make_29 ?_
    refine g_bipush hX dX0_make_32 bp_m9 ?_
    refine g_callV hX (As := [.int (-9)]) (fun _ => none) (fun r => r) (fun _ => mm) (fun _ => lm) (fun r hr => c_X4_fill (rw0_9 hC) hr) mi_X4_fill ml_0_73 (rw0_9 hC).1 (eR_0 (rw0_9 hC)) rfl rfl rfl rfl rfl (Nat.le_of_ble_eq_true rfl) dX0_make_34 ?_
    intro r34 hr34
    refine g_aload_n hX dX0_make_37 rfl rfl ?_
    refine g_get hX fi_0_32 (okC hC (by decide)) (e0_0 hC) rfl dX0_make_38 ?_
    refine g_bipush hX dX0_make_41 bp_m9 ?_
    refine g_callV hX (As := [.int (-9)]) (fun _ => none) (fun r => r) (fun _ => mm) (fun _ => lm) (fun r hr => c_X4_fill (rw0_11 hC) hr) mi_X4_fill ml_0_73 (rw0_11 hC).1 (eR_0 (rw0_11 hC)) rfl rfl rfl rfl rfl (Nat.le_of_ble_eq_true rfl) dX0_make_43 ?_
    intro r43 hr43
    refine g_aload_n hX dX0_make_46 rfl rfl ?_
    refine g_get hX fi_0_35 (okC hC (by decide)) (e0_0 hC) rfl dX0_make_47 ?_
    refine g_iconst hX dX0_make_50 ic_0 ?_
    refine g_callV hX (As := [.int 0]) (fun _ => none) (fun r => r) (fun _ => mm) (fun _ => lm) (fun r hr => c_X4_fill (rw0_13 hC) hr) mi_X4_fill ml_0_73 (rw0_13 hC).1 (eR_0 (rw0_13 hC)) rfl rfl rfl rfl rfl (Nat.le_of_ble_eq_true rfl) dX0_make_51 ?_
    intro r51 hr51
    refine g_iconst hX dX0_make_54 ic_0 ?_
    refine g_istore_n hX dX0_make_55 rfl (Nat.le_of_ble_eq_true rfl) rfl ?_
    refine g_loop (Hd := fun s : Int32 × CM => J Z X 3 s.2 mm lm 56 [some (.ref (ad Z C 0)), some (.ref (ad Z o 0)), some (.int s.1)] []) (Ex := fun s : Int32 × CM => J Z X 3 s.2 mm lm 80 [some (.ref (ad Z C 0)), some (.ref (ad Z o 0)), some (.int s.1)] []) ?_ ?_
    · rintro ⟨s56_2, c56_⟩
      show G _ (f_X0_make_B56 C o s56_2 c56_) (J Z X 3 c56_ mm lm 56 [some (.ref (ad Z C 0)), some (.ref (ad Z o 0)), some (.int s56_2)] [])
      unfold f_X0_make_B56
      refine g_iload_n hX dX0_make_56 rfl rfl ?_
      refine g_iconst hX dX0_make_57 ic_4 ?_
      refine g_icmp_ge hX dX0_make_58 (fun h58 => ?_) (fun h58 => ?_)
      · exact g_wk (lv0 := [some (.ref (ad Z C 0)), some (.ref (ad Z o 0)), some (.int s56_2)]) ⟨rfl, rfl, rfl, trivial⟩ (g_end (fun h => h))
      · refine g_aload_n hX dX0_make_61 rfl rfl ?_
        refine g_aload_n hX dX0_make_62 rfl rfl ?_
        refine g_aload_n hX dX0_make_63 rfl rfl ?_
        refine g_sipush hX dX0_make_64 sp_152 ?_
        refine g_iload_n hX dX0_make_67 rfl rfl ?_
        refine g_callV hX (As := [.int 152, .int s56_2]) (fun r => (some (.int r))) (fun _ => c56_) (fun _ => mm) (fun _ => lm) (fun r hr => c_X3_get hO hr) mi_X3_get ml_0_76 (okO hO (by decide)) (e3_0 hO) rfl rfl rfl rfl rfl (Nat.le_of_ble_eq_true rfl) dX0_make_68 ?_
        intro x68 hx68
        refine g_callV hX (As := [.ref (ad Z o 0), .int x68]) (fun _ => none) (fun r => r) (fun _ => mm) (fun _ => lm) (fun r hr => c_X0_takeIn hC hO hr) mi_X0_takeIn ml_0_80 (okC hC (by decide)) (e0_0 hC) rfl rfl rfl rfl rfl (Nat.le_of_ble_eq_true rfl) dX0_make_71 ?_
        intro r71 hr71
        refine g_iinc hX dX0_make_74 ic_1 rfl (Nat.le_of_ble_eq_true rfl) rfl ?_
        refine g_goto hX dX0_make_77 ?_
        exact g_wk (lv0 := [some (.ref (ad Z C 0)), some (.ref (ad Z o 0)), some (.int (s56_2 + 1))]) ⟨rfl, rfl, rfl, trivial⟩ (g_end (fun h => h))
    · rintro ⟨s56_2, c56_⟩
      show G _ _ (J Z X 3 c56_ mm lm 80 [some (.ref (ad Z C 0)), some (.ref (ad Z o 0)), some (.int s56_2)] [])
      refine g_iconst hX dX0_make_80 ic_0 ?_
      refine g_istore_n hX dX0_make_81 rfl (Nat.le_of_ble_eq_true rfl) rfl ?_
      refine g_loop (Hd := fun s : Int32 × CM => J Z X 3 s.2 mm lm 82 [some (.ref (ad Z C 0)), some (.ref (ad Z o 0)), some (.int s.1)] []) (Ex := fun s : Int32 × CM => J Z X 3 s.2 mm lm 106 [some (.ref (ad Z C 0)), some (.ref (ad Z o 0)), some (.int s.1)] []) ?_ ?_
      · rintro ⟨s82_2, c82_⟩
        show G _ (f_X0_make_B82 C o s82_2 c82_) (J Z X 3 c82_ mm lm 82 [some (.ref (ad Z C 0)), some (.ref (ad Z o 0)), some (.int s82_2)] [])
        unfold f_X0_make_B82
        refine g_iload_n hX dX0_make_82 rfl rfl ?_
        refine g_iconst hX dX0_make_83 ic_4 ?_
        refine g_icmp_ge hX dX0_make_84 (fun h84 => ?_) (fun h84 => ?_)
        · exact g_wk (lv0 := [some (.ref (ad Z C 0)), some (.ref (ad Z o 0)), some (.int s82_2)]) ⟨rfl, rfl, rfl, trivial⟩ (g_end (fun h => h))
        · refine g_aload_n hX dX0_make_87 rfl rfl ?_
          refine g_aload_n hX dX0_make_88 rfl rfl ?_
          refine g_aload_n hX dX0_make_89 rfl rfl ?_
          refine g_sipush hX dX0_make_90 sp_152 ?_
          refine g_iload_n hX dX0_make_93 rfl rfl ?_
          refine g_callV hX (As := [.int 152, .int s82_2]) (fun r => (some (.int r))) (fun _ => c82_) (fun _ => mm) (fun _ => lm) (fun r hr => c_X3_get hO hr) mi_X3_get ml_0_76 (okO hO (by decide)) (e3_0 hO) rfl rfl rfl rfl rfl (Nat.le_of_ble_eq_true rfl) dX0_make_94 ?_
          intro x94 hx94
          refine g_callV hX (As := [.ref (ad Z o 0), .int x94]) (fun _ => none) (fun r => r) (fun _ => mm) (fun _ => lm) (fun r hr => c_X0_passOn hC hO hr) mi_X0_passOn ml_0_84 (okC hC (by decide)) (e0_0 hC) rfl rfl rfl rfl rfl (Nat.le_of_ble_eq_true rfl) dX0_make_97 ?_
          intro r97 hr97
          refine g_iinc hX dX0_make_100 ic_1 rfl (Nat.le_of_ble_eq_true rfl) rfl ?_
          refine g_goto hX dX0_make_103 ?_
          exact g_wk (lv0 := [some (.ref (ad Z C 0)), some (.ref (ad Z o 0)), some (.int (s82_2 + 1))]) ⟨rfl, rfl, rfl, trivial⟩ (g_end (fun h => h))
      · rintro ⟨s82_2, c82_⟩
        show G _ _ (J Z X 3 c82_ mm lm 106 [some (.ref (ad Z C 0)), some (.ref (ad Z o 0)), some (.int s82_2)] [])
        exact g_vret hX (fun h => h) dX0_make_106
  exact g r h hF

def f_X0_assignGroups_B28 (C : Nat) (o : Nat) (s15_2 : Int32) (s28_3 : Int32) (c28_ : CM) : Option ((Int32 × CM) ⊕ (Int32 × CM)) :=
  if (c28_ C 0 10) ≤ s28_3 then
    some (.inl (s28_3, c28_))
  else
    (f_X0_personAt c28_ C s28_3).bind fun x38 =>
    (f_X0_isTaken c28_ C x38 s15_2).bind fun x47 =>
    if x47 = 0 then
      some (.inr (s28_3 + 1, c28_))
    else
      (f_X3_get c28_ o 48 x38).bind fun x68 =>
      (f_X5_assign c28_ C x68).bind fun r71 =>
      (f_X4_set r71.2 C 11 16 x38 r71.1).bind fun r74 =>
      some (.inr (s28_3 + 1, r74))

def f_X0_assignGroups_B15 (C : Nat) (o : Nat) (s15_2 : Int32) (c15_ : CM) : Option ((Int32 × CM) ⊕ (Int32 × CM)) :=
  if 4 ≤ s15_2 then
    some (.inl (s15_2, c15_))
  else
    (f_X0_tallyTaken c15_ C o s15_2).bind fun r23 =>
    (itr (fun s : Int32 × CM => f_X0_assignGroups_B28 C o s15_2 s.1 s.2) 2000 (0, r23)).bind fun (s28_3, c28_) =>
    some (.inr (s15_2 + 1, c28_))

def f_X0_assignGroups (cm : CM) (C o : Nat) : Option (CM) :=
  (f_X3_get cm o 156 0).bind fun x5 =>
  if x5 = 1 then
    some cm
  else
    (itr (fun s : Int32 × CM => f_X0_assignGroups_B15 C o s.1 s.2) 2000 (0, cm)).bind fun (s15_2, c15_) =>
    some c15_

abbrev rm_X0_assignGroups : Room := { frames := 4, cells := 0, slots := 0, locals := 91 }
set_option maxHeartbeats 2000000 in
set_option maxRecDepth 20000 in
theorem c_X0_assignGroups {Z : ZC} {cm : CM} {mm : MM} {lm : LM} {C o : Nat} {r : CM} (hC : isCh C) (hO : isOf o) (h : f_X0_assignGroups cm C o = some r) : Ct Z yX0_assignGroups cX0_assignGroups 5 none rm_X0_assignGroups [.ref (ad Z C 0), .ref (ad Z o 0)] cm mm lm none r mm lm := by
  refine Ct_of (own := RX0) [some (.ref (ad Z C 0)), some (.ref (ad Z o 0)), none, none, none] ⟨by decide, rfl⟩ rfl (Nat.le_of_ble_eq_true rfl) rfl (fun X hX hF => ?_)
  have g : G (fun r : CM => Fx Z X none none r mm lm) (f_X0_assignGroups cm C o) (J Z X 5 cm mm lm 0 [some (.ref (ad Z C 0)), some (.ref (ad Z o 0)), none, none, none] []) := by
    unfold f_X0_assignGroups
    refine g_aload_n hX dX0_assignGroups_0 rfl rfl ?_
    refine g_sipush hX dX0_assignGroups_1 sp_156 ?_
    refine g_iconst hX dX0_assignGroups_4 ic_0 ?_
    refine g_callV hX (As := [.int 156, .int 0]) (fun r => (some (.int r))) (fun _ => cm) (fun _ => mm) (fun _ => lm) (fun r hr => c_X3_get hO hr) mi_X3_get ml_0_76 (okO hO (by decide)) (e3_0 hO) rfl rfl rfl rfl rfl (Nat.le_of_ble_eq_true rfl) dX0_assignGroups_5 ?_
    intro x5 hx5
    refine g_iconst hX dX0_assignGroups_8 ic_1 ?_
    refine g_icmp_ne hX dX0_assignGroups_9 (fun h9 => ?_) (fun h9 => ?_)
    · exact g_vret hX (fun h => h) dX0_assignGroups_12
    · refine g_iconst hX dX0_assignGroups_13 ic_0 ?_
      refine g_istore_n hX dX0_assignGroups_14 rfl (Nat.le_of_ble_eq_true rfl) rfl ?_
      refine g_loop (Hd := fun s : Int32 × CM => J Z X 5 s.2 mm lm 15 [some (.ref (ad Z C 0)), some (.ref (ad Z o 0)), some (.int s.1), none, none] []) (Ex := fun s : Int32 × CM => J Z X 5 s.2 mm lm 89 [some (.ref (ad Z C 0)), some (.ref (ad Z o 0)), some (.int s.1), none, none] []) ?_ ?_
      · rintro ⟨s15_2, c15_⟩
        show G _ (f_X0_assignGroups_B15 C o s15_2 c15_) (J Z X 5 c15_ mm lm 15 [some (.ref (ad Z C 0)), some (.ref (ad Z o 0)), some (.int s15_2), none, none] [])
        unfold f_X0_assignGroups_B15
        refine g_iload_n hX dX0_assignGroups_15 rfl rfl ?_
        refine g_iconst hX dX0_assignGroups_16 ic_4 ?_
        refine g_icmp_ge hX dX0_assignGroups_17 (fun h17 => ?_) (fun h17 => ?_)
        · exact g_wk (lv0 := [some (.ref (ad Z C 0)), some (.ref (ad Z o 0)), some (.int s15_2), none, none]) ⟨rfl, rfl, rfl, trivial⟩ (g_end (fun h => h))
        · refine g_aload_n hX dX0_assignGroups_20 rfl rfl ?_
          refine g_aload_n hX dX0_assignGroups_21 rfl rfl ?_
          refine g_iload_n hX dX0_assignGroups_22 rfl rfl ?_
          refine g_callV hX (As := [.ref (ad Z o 0), .int s15_2]) (fun _ => none) (fun r => r) (fun _ => mm) (fun _ => lm) (fun r hr => c_X0_tallyTaken hC hO hr) mi_X0_tallyTaken ml_0_87 (okC hC (by decide)) (e0_0 hC) rfl rfl rfl rfl rfl (Nat.le_of_ble_eq_true rfl) dX0_assignGroups_23 ?_
          intro r23 hr23
          refine g_iconst hX dX0_assignGroups_26 ic_0 ?_
          refine g_istore_n hX dX0_assignGroups_27 rfl (Nat.le_of_ble_eq_true rfl) rfl ?_
          refine g_loop (Hd := fun s : Int32 × CM => J Z X 5 s.2 mm lm 28 [some (.ref (ad Z C 0)), some (.ref (ad Z o 0)), some (.int s15_2), some (.int s.1), none] []) (Ex := fun s : Int32 × CM => J Z X 5 s.2 mm lm 83 [some (.ref (ad Z C 0)), some (.ref (ad Z o 0)), some (.int s15_2), some (.int s.1), none] []) ?_ ?_
          · rintro ⟨s28_3, c28_⟩
            show G _ (f_X0_assignGroups_B28 C o s15_2 s28_3 c28_) (J Z X 5 c28_ mm lm 28 [some (.ref (ad Z C 0)), some (.ref (ad Z o 0)), some (.int s15_2), some (.int s28_3), none] [])
            unfold f_X0_assignGroups_B28
            refine g_iload_n hX dX0_assignGroups_28 rfl rfl ?_
            refine g_aload_n hX dX0_assignGroups_29 rfl rfl ?_
            refine g_get hX fi_0_52 (okC hC (by decide)) (e0_0 hC) rfl dX0_assignGroups_30 ?_
            refine g_icmp_ge hX dX0_assignGroups_33 (fun h33 => ?_) (fun h33 => ?_)
            · exact g_wk (lv0 := [some (.ref (ad Z C 0)), some (.ref (ad Z o 0)), some (.int s15_2), some (.int s28_3), none]) ⟨rfl, rfl, rfl, rfl, trivial⟩ (g_end (fun h => h))
            · refine g_aload_n hX dX0_assignGroups_36 rfl rfl ?_
              refine g_iload_n hX dX0_assignGroups_37 rfl rfl ?_
              refine g_callV hX (As := [.int s28_3]) (fun r => (some (.int r))) (fun _ => c28_) (fun _ => mm) (fun _ => lm) (fun r hr => c_X0_personAt hC hr) mi_X0_personAt ml_0_90 (okC hC (by decide)) (e0_0 hC) rfl rfl rfl rfl rfl (Nat.le_of_ble_eq_true rfl) dX0_assignGroups_38 ?_
              intro x38 hx38
              refine g_istore hX dX0_assignGroups_41 (Nat.le_of_ble_eq_true rfl) rfl ?_
              refine g_aload_n hX dX0_assignGroups_43 rfl rfl ?_
              refine g_iload hX dX0_assignGroups_44 rfl ?_
              refine g_iload_n hX dX0_assignGroups_46 rfl rfl ?_
              refine g_callV hX (As := [.int x38, .int s15_2]) (fun r => (some (.int r))) (fun _ => c28_) (fun _ => mm) (fun _ => lm) (fun r hr => c_X0_isTaken hC hr) mi_X0_isTaken ml_0_94 (okC hC (by decide)) (e0_0 hC) rfl rfl rfl rfl rfl (Nat.le_of_ble_eq_true rfl) dX0_assignGroups_47 ?_
              intro x47 hx47
              refine g_if_eq hX dX0_assignGroups_50 (fun h50 => ?_) (fun h50 => ?_)
              · refine g_iinc hX dX0_assignGroups_77 ic_1 rfl (Nat.le_of_ble_eq_true rfl) rfl ?_
                refine g_goto hX dX0_assignGroups_80 ?_
                exact g_wk (lv0 := [some (.ref (ad Z C 0)), some (.ref (ad Z o 0)), some (.int s15_2), some (.int (s28_3 + 1)), none]) ⟨rfl, rfl, rfl, rfl, trivial⟩ (g_end (fun h => h))
              · refine g_aload_n hX dX0_assignGroups_53 rfl rfl ?_
                refine g_get hX fi_0_32 (okC hC (by decide)) (e0_0 hC) rfl dX0_assignGroups_54 ?_
                refine g_iload hX dX0_assignGroups_57 rfl ?_
                refine g_aload_n hX dX0_assignGroups_59 rfl rfl ?_
                refine g_get hX fi_0_44 (okC hC (by decide)) (e0_0 hC) rfl dX0_assignGroups_60 ?_
                refine g_aload_n hX dX0_assignGroups_63 rfl rfl ?_
                refine g_bipush hX dX0_assignGroups_64 bp_48 ?_
                refine g_iload hX dX0_assignGroups_66 rfl ?_
                refine g_callV hX (As := [.int 48, .int x38]) (fun r => (some (.int r))) (fun _ => c28_) (fun _ => mm) (fun _ => lm) (fun r hr => c_X3_get hO hr) mi_X3_get ml_0_76 (okO hO (by decide)) (e3_0 hO) rfl rfl rfl rfl rfl (Nat.le_of_ble_eq_true rfl) dX0_assignGroups_68 ?_
                intro x68 hx68
                refine g_callV hX (As := [.int x68]) (fun r => (some (.int r.1))) (fun r => r.2) (fun _ => mm) (fun _ => lm) (fun r hr => c_X5_assign hC hr) mi_X5_assign ml_0_98 (okC hC (by decide)) (e0_17 hC) rfl rfl rfl rfl rfl (Nat.le_of_ble_eq_true rfl) dX0_assignGroups_71 ?_
                intro r71 hr71
                refine g_callV hX (As := [.int x38, .int r71.1]) (fun _ => none) (fun r => r) (fun _ => mm) (fun _ => lm) (fun r hr => c_X4_set (rw0_11 hC) hr) mi_X4_set ml_0_101 (rw0_11 hC).1 (eR_0 (rw0_11 hC)) rfl rfl rfl rfl rfl (Nat.le_of_ble_eq_true rfl) dX0_assignGroups_74 ?_
                intro r74 hr74
                refine g_iinc hX dX0_assignGroups_77 ic_1 rfl (Nat.le_of_ble_eq_true rfl) rfl ?_
                refine g_goto hX dX0_assignGroups_80 ?_
                exact g_wk (lv0 := [some (.ref (ad Z C 0)), some (.ref (ad Z o 0)), some (.int s15_2), some (.int (s28_3 + 1)), none]) ⟨rfl, rfl, rfl, rfl, trivial⟩ (g_end (fun h => h))
          · rintro ⟨s28_3, c28_⟩
            show G _ _ (J Z X 5 c28_ mm lm 83 [some (.ref (ad Z C 0)), some (.ref (ad Z o 0)), some (.int s15_2), some (.int s28_3), none] [])
            refine g_iinc hX dX0_assignGroups_83 ic_1 rfl (Nat.le_of_ble_eq_true rfl) rfl ?_
            refine g_goto hX dX0_assignGroups_86 ?_
            exact g_wk (lv0 := [some (.ref (ad Z C 0)), some (.ref (ad Z o 0)), some (.int (s15_2 + 1)), none, none]) ⟨rfl, rfl, rfl, trivial⟩ (g_end (fun h => h))
      · rintro ⟨s15_2, c15_⟩
        show G _ _ (J Z X 5 c15_ mm lm 89 [some (.ref (ad Z C 0)), some (.ref (ad Z o 0)), some (.int s15_2), none, none] [])
        exact g_vret hX (fun h => h) dX0_assignGroups_89
  exact g r h hF
