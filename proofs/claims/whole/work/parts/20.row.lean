def f_X4_get (cm : CM) (ob pt n : Nat) (a1 : Int32) : Option (Int32) :=
  if a1 < 0 then
    some 0
  else
    if (Int32.ofNat n) ≤ a1 then
      some 0
    else
      (rd n (cm ob (pt + 1)) a1).bind fun x18 =>
      some x18

abbrev rm_X4_get : Room := { frames := 0, cells := 0, slots := 0, locals := 0 }
set_option maxHeartbeats 2000000 in
set_option maxRecDepth 20000 in
theorem c_X4_get {Z : ZC} {cm : CM} {mm : MM} {lm : LM} {ob pt n : Nat} {a1 : Int32} {r : Int32} (hR : isRow ob pt n) (h : f_X4_get cm ob pt n a1 = some r) : Ct Z yX4_get cX4_get 2 (some .int) rm_X4_get [.ref (ad Z ob pt), .int a1] cm mm lm (some (.int r)) cm mm lm := by
  refine Ct_of (own := RX4) [some (.ref (ad Z ob pt)), some (.int a1)] ⟨by decide, rfl⟩ rfl (Nat.le_of_ble_eq_true rfl) rfl (fun X hX hF => ?_)
  have g : G (fun r : Int32 => Fx Z X (some .int) (some (.int r)) cm mm lm) (f_X4_get cm ob pt n a1) (J Z X 2 cm mm lm 0 [some (.ref (ad Z ob pt)), some (.int a1)] []) := by
    unfold f_X4_get
    refine g_iload_n hX dX4_get_0 rfl rfl ?_
    refine g_if_lt hX dX4_get_1 (fun h1 => ?_) (fun h1 => ?_)
    · refine g_iconst hX dX4_get_22 ic_0 ?_
      exact g_iret hX (fun h => h) dX4_get_23
    · refine g_iload_n hX dX4_get_4 rfl rfl ?_
      refine g_aload_n hX dX4_get_5 rfl rfl ?_
      refine g_get hX fi_4_13 hR.1 (eR_0 hR) rfl dX4_get_6 ?_
      refine g_alen hX hR.2.1 (eR_1 hR) rfl dX4_get_9 ?_
      refine g_icmp_ge hX dX4_get_10 (fun h10 => ?_) (fun h10 => ?_)
      · refine g_iconst hX dX4_get_22 ic_0 ?_
        exact g_iret hX (fun h => h) dX4_get_23
      · refine g_aload_n hX dX4_get_13 rfl rfl ?_
        refine g_get hX fi_4_13 hR.1 (eR_0 hR) rfl dX4_get_14 ?_
        refine g_iload_n hX dX4_get_17 rfl rfl ?_
        refine g_iald hX hR.2.1 (eR_1 hR) dX4_get_18 ?_
        intro x18 hx18
        refine g_goto hX dX4_get_19 ?_
        exact g_iret hX (fun h => h) dX4_get_23
  exact g r h hF

def f_X4_set (cm : CM) (ob pt n : Nat) (a1 a2 : Int32) : Option (CM) :=
  if a1 < 0 then
    some cm
  else
    if (Int32.ofNat n) ≤ a1 then
      some cm
    else
      (wr n (cm ob (pt + 1)) a1 a2).bind fun g19 =>
      some (u3 cm ob (pt + 1) g19)

abbrev rm_X4_set : Room := { frames := 0, cells := 0, slots := 0, locals := 0 }
set_option maxHeartbeats 2000000 in
set_option maxRecDepth 20000 in
theorem c_X4_set {Z : ZC} {cm : CM} {mm : MM} {lm : LM} {ob pt n : Nat} {a1 a2 : Int32} {r : CM} (hR : isRow ob pt n) (h : f_X4_set cm ob pt n a1 a2 = some r) : Ct Z yX4_set cX4_set 3 none rm_X4_set [.ref (ad Z ob pt), .int a1, .int a2] cm mm lm none r mm lm := by
  refine Ct_of (own := RX4) [some (.ref (ad Z ob pt)), some (.int a1), some (.int a2)] ⟨by decide, rfl⟩ rfl (Nat.le_of_ble_eq_true rfl) rfl (fun X hX hF => ?_)
  have g : G (fun r : CM => Fx Z X none none r mm lm) (f_X4_set cm ob pt n a1 a2) (J Z X 3 cm mm lm 0 [some (.ref (ad Z ob pt)), some (.int a1), some (.int a2)] []) := by
    unfold f_X4_set
    refine g_iload_n hX dX4_set_0 rfl rfl ?_
    refine g_if_lt hX dX4_set_1 (fun h1 => ?_) (fun h1 => ?_)
    · exact g_vret hX (fun h => h) dX4_set_20
    · refine g_iload_n hX dX4_set_4 rfl rfl ?_
      refine g_aload_n hX dX4_set_5 rfl rfl ?_
      refine g_get hX fi_4_13 hR.1 (eR_0 hR) rfl dX4_set_6 ?_
      refine g_alen hX hR.2.1 (eR_1 hR) rfl dX4_set_9 ?_
      refine g_icmp_ge hX dX4_set_10 (fun h10 => ?_) (fun h10 => ?_)
      · exact g_vret hX (fun h => h) dX4_set_20
      · refine g_aload_n hX dX4_set_13 rfl rfl ?_
        refine g_get hX fi_4_13 hR.1 (eR_0 hR) rfl dX4_set_14 ?_
        refine g_iload_n hX dX4_set_17 rfl rfl ?_
        refine g_iload_n hX dX4_set_18 rfl rfl ?_
        refine g_iastC hX hR.2.1 hR.2.2.1 (hR.2.2.2.2 Z) dX4_set_19 ?_
        intro g19 hg19
        exact g_vret hX (fun h => h) dX4_set_20
  exact g r h hF

def f_X4_add (cm : CM) (ob pt n : Nat) (a1 a2 : Int32) : Option (CM) :=
  if a1 < 0 then
    some cm
  else
    if (Int32.ofNat n) ≤ a1 then
      some cm
    else
      (rd n (cm ob (pt + 1)) a1).bind fun x19 =>
      (wr n (cm ob (pt + 1)) a1 (x19 + a2)).bind fun g22 =>
      some (u3 cm ob (pt + 1) g22)

abbrev rm_X4_add : Room := { frames := 0, cells := 0, slots := 0, locals := 0 }
set_option maxHeartbeats 2000000 in
set_option maxRecDepth 20000 in
theorem c_X4_add {Z : ZC} {cm : CM} {mm : MM} {lm : LM} {ob pt n : Nat} {a1 a2 : Int32} {r : CM} (hR : isRow ob pt n) (h : f_X4_add cm ob pt n a1 a2 = some r) : Ct Z yX4_add cX4_add 3 none rm_X4_add [.ref (ad Z ob pt), .int a1, .int a2] cm mm lm none r mm lm := by
  refine Ct_of (own := RX4) [some (.ref (ad Z ob pt)), some (.int a1), some (.int a2)] ⟨by decide, rfl⟩ rfl (Nat.le_of_ble_eq_true rfl) rfl (fun X hX hF => ?_)
  have g : G (fun r : CM => Fx Z X none none r mm lm) (f_X4_add cm ob pt n a1 a2) (J Z X 3 cm mm lm 0 [some (.ref (ad Z ob pt)), some (.int a1), some (.int a2)] []) := by
    unfold f_X4_add
    refine g_iload_n hX dX4_add_0 rfl rfl ?_
    refine g_if_lt hX dX4_add_1 (fun h1 => ?_) (fun h1 => ?_)
    · exact g_vret hX (fun h => h) dX4_add_23
    · refine g_iload_n hX dX4_add_4 rfl rfl ?_
      refine g_aload_n hX dX4_add_5 rfl rfl ?_
      refine g_get hX fi_4_13 hR.1 (eR_0 hR) rfl dX4_add_6 ?_
      refine g_alen hX hR.2.1 (eR_1 hR) rfl dX4_add_9 ?_
      refine g_icmp_ge hX dX4_add_10 (fun h10 => ?_) (fun h10 => ?_)
      · exact g_vret hX (fun h => h) dX4_add_23
      · refine g_aload_n hX dX4_add_13 rfl rfl ?_
        refine g_get hX fi_4_13 hR.1 (eR_0 hR) rfl dX4_add_14 ?_
        refine g_iload_n hX dX4_add_17 rfl rfl ?_
        refine g_dup2 hX dX4_add_18 rfl rfl ?_
        refine g_iald hX hR.2.1 (eR_1 hR) dX4_add_19 ?_
        intro x19 hx19
        refine g_iload_n hX dX4_add_20 rfl rfl ?_
        refine g_iadd hX dX4_add_21 ?_
        refine g_iastC hX hR.2.1 hR.2.2.1 (hR.2.2.2.2 Z) dX4_add_22 ?_
        intro g22 hg22
        exact g_vret hX (fun h => h) dX4_add_23
  exact g r h hF

def f_X4_fill_B2 (ob : Nat) (pt : Nat) (n : Nat) (a1 : Int32) (s2_2 : Int32) (c2_ : CM) : Option ((Int32 × CM) ⊕ (Int32 × CM)) :=
  if (Int32.ofNat n) ≤ s2_2 then
    some (.inl (s2_2, c2_))
  else
    (wr n (c2_ ob (pt + 1)) s2_2 a1).bind fun g17 =>
    some (.inr (s2_2 + 1, u3 c2_ ob (pt + 1) g17))

def f_X4_fill (cm : CM) (ob pt n : Nat) (a1 : Int32) : Option (CM) :=
  (itr (fun s : Int32 × CM => f_X4_fill_B2 ob pt n a1 s.1 s.2) 2000 (0, cm)).bind fun (s2_2, c2_) =>
  some c2_

abbrev rm_X4_fill : Room := { frames := 0, cells := 0, slots := 0, locals := 0 }
set_option maxHeartbeats 2000000 in
set_option maxRecDepth 20000 in
theorem c_X4_fill {Z : ZC} {cm : CM} {mm : MM} {lm : LM} {ob pt n : Nat} {a1 : Int32} {r : CM} (hR : isRow ob pt n) (h : f_X4_fill cm ob pt n a1 = some r) : Ct Z yX4_fill cX4_fill 3 none rm_X4_fill [.ref (ad Z ob pt), .int a1] cm mm lm none r mm lm := by
  refine Ct_of (own := RX4) [some (.ref (ad Z ob pt)), some (.int a1), none] ⟨by decide, rfl⟩ rfl (Nat.le_of_ble_eq_true rfl) rfl (fun X hX hF => ?_)
  have g : G (fun r : CM => Fx Z X none none r mm lm) (f_X4_fill cm ob pt n a1) (J Z X 3 cm mm lm 0 [some (.ref (ad Z ob pt)), some (.int a1), none] []) := by
    unfold f_X4_fill
    refine g_iconst hX dX4_fill_0 ic_0 ?_
    refine g_istore_n hX dX4_fill_1 rfl (Nat.le_of_ble_eq_true rfl) rfl ?_
    refine g_loop (Hd := fun s : Int32 × CM => J Z X 3 s.2 mm lm 2 [some (.ref (ad Z ob pt)), some (.int a1), some (.int s.1)] []) (Ex := fun s : Int32 × CM => J Z X 3 s.2 mm lm 24 [some (.ref (ad Z ob pt)), some (.int a1), some (.int s.1)] []) ?_ ?_
    · rintro ⟨s2_2, c2_⟩
      show G _ (f_X4_fill_B2 ob pt n a1 s2_2 c2_) (J Z X 3 c2_ mm lm 2 [some (.ref (ad Z ob pt)), some (.int a1), some (.int s2_2)] [])
      unfold f_X4_fill_B2
      refine g_iload_n hX dX4_fill_2 rfl rfl ?_
      refine g_aload_n hX dX4_fill_3 rfl rfl ?_
      refine g_get hX fi_4_13 hR.1 (eR_0 hR) rfl dX4_fill_4 ?_
      refine g_alen hX hR.2.1 (eR_1 hR) rfl dX4_fill_7 ?_
      refine g_icmp_ge hX dX4_fill_8 (fun h8 => ?_) (fun h8 => ?_)
      · exact g_wk (lv0 := [some (.ref (ad Z ob pt)), some (.int a1), some (.int s2_2)]) ⟨rfl, rfl, rfl, trivial⟩ (g_end (fun h => h))
      · refine g_aload_n hX dX4_fill_11 rfl rfl ?_
        refine g_get hX fi_4_13 hR.1 (eR_0 hR) rfl dX4_fill_12 ?_
        refine g_iload_n hX dX4_fill_15 rfl rfl ?_
        refine g_iload_n hX dX4_fill_16 rfl rfl ?_
        refine g_iastC hX hR.2.1 hR.2.2.1 (hR.2.2.2.2 Z) dX4_fill_17 ?_
        intro g17 hg17
        refine g_iinc hX dX4_fill_18 ic_1 rfl (Nat.le_of_ble_eq_true rfl) rfl ?_
        refine g_goto hX dX4_fill_21 ?_
        exact g_wk (lv0 := [some (.ref (ad Z ob pt)), some (.int a1), some (.int (s2_2 + 1))]) ⟨rfl, rfl, rfl, trivial⟩ (g_end (fun h => h))
    · rintro ⟨s2_2, c2_⟩
      show G _ _ (J Z X 3 c2_ mm lm 24 [some (.ref (ad Z ob pt)), some (.int a1), some (.int s2_2)] [])
      exact g_vret hX (fun h => h) dX4_fill_24
  exact g r h hF
