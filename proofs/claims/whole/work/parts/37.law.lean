/-! THE LAW'S LOOP over the two decompiled systems -/
def LX (Z : ZC) (X : XC) (b L : Nat) (xs : Nat → Int32) : Prop :=
  va_X b L xs X.2.2.2.1 X.2.2.2.1.heap ∧ b < X.2.2.2.1.heap.size ∧ zb Z = X.2.2.2.1.heap.size ∧ X.2.2.2.2.2.1 = #[Value.ref b] ∧ X.2.2.2.2.2.2.2.2.2.1 = lw_Z X.2.2.2.2.2.2.1 #[Value.ref b] X.2.2.2.1 ∧ X.2.2.2.2.2.2.2.2.2.2.1 ≤ 600000 ∧ X.2.2.2.2.2.2.2.2.2.2.2 ≤ 7302250 ∧ X.2.2.2.2.2.2.2.1.sig.returnType = ret ∧ X.2.2.2.2.2.2.2.1.locks = false
section LawRows
variable {Z : ZC} {X : XC} {nL : Nat} {own : String} {R0 : Room} {cm cm' : CM} {mm mm' : MM} {lm lm' : LM} {pc q b L : Nat} {xs : Nat → Int32} {lv : List (Option Value)} {st : List Value} {α : Type} {k : α → Prop} {o : Option α}
theorem g_slen (hX : Cx Z X code nL own R0) (HL : LX Z X b L xs) (hd : decode code pc = .ok (.arraylength, 1) ∧ pc + 1 = q) (kk : G k o (J Z X nL cm mm lm q lv (.int (Int32.ofNat L) :: st))) : G k o (J Z X nL cm mm lm pc lv (.ref b :: st)) := by
  obtain ⟨hx, hb, hml, hown, hts, hK, rfl, hc, hs, hbz⟩ := hX
  obtain ⟨hd, rfl⟩ := hd
  obtain ⟨l1, l2, l3, -⟩ := HL
  intro a ha hk H locs ls hP hS hl
  exact va_slen hx hb l1 l2 (by rw [l3]; exact Nat.not_le.mpr l2) hS hd (kk a ha hk H locs ls hP hS hl)
theorem g_sld (hX : Cx Z X code nL own R0) (HL : LX Z X b L xs) {i : Int32} {K : Int32 → Option α} (hd : decode code pc = .ok (.iaload, 1) ∧ pc + 1 = q) (kk : ∀ x, rd L xs i = some x → G k (K x) (J Z X nL cm mm lm q lv (.int x :: st))) : G k ((rd L xs i).bind K) (J Z X nL cm mm lm pc lv (.int i :: .ref b :: st)) := by
  obtain ⟨hx, hb, hml, hown, hts, hK, rfl, hc, hs, hbz⟩ := hX
  obtain ⟨hd, rfl⟩ := hd
  obtain ⟨l1, l2, l3, -⟩ := HL
  intro a ha hk H locs ls hP hS hl
  obtain ⟨x, hv, ha⟩ := Option.bind_eq_some_iff.mp ha
  obtain ⟨h1, h2⟩ := rd_some hv
  subst h2
  exact va_sld hx hb l1 l2 (by rw [l3]; exact Nat.not_le.mpr l2) hS h1 hd (kk _ hv a ha hk H locs ls hP hS hl)
theorem g_lawret (hX : Cx Z X code nL own room_1) (HL : LX Z X b L xs) {a : α} {v : Int32} (hF : k a → v = 1) (hd : decode code pc = .ok (.ireturn, 1) ∧ pc + 1 = q) : G k (some a) (J Z X nL cm mm lm pc lv [.int v]) := by
  intro a' ha hk H locs ls hP hS hl
  cases ha
  obtain rfl := hF hk
  obtain ⟨hx, hb, hml, hown, hts, hK, hR, hc, hs, hbz⟩ := hX
  obtain ⟨l1, l2, l3, l4, l5, l6, l7, l8, l9⟩ := HL
  rw [l5, l4, hR]
  refine va_forget (fun q hq => ?_) ?_
  · rw [← l3]; exact hS.2.2 q hq
  · refine W.widen (k := 600000) (n := 7302250) l6 l7 ?_
    exact lw_ret hx hb l8 l9 hd.1
end LawRows
def f_L_law_B18 (L : Nat) (xs : (Nat → Int32)) (s18_3 : Int32) (c18_ : CM) (m18_ : MM) (l18_ : LM) : Option (((Int32 × CM × MM × LM) ⊕ (Int32)) ⊕ (Int32 × CM × MM × LM)) :=
  if ((Int32.ofNat L) - 5) < s18_3 then
    some (.inl (.inl (s18_3, c18_, m18_, l18_)))
  else
    (rd L xs s18_3).bind fun x28 =>
    if (x28 &&& 63) = 0 then
      (rd L xs (s18_3 + 1)).bind fun x189 =>
      (rd L xs (s18_3 + 2)).bind fun x194 =>
      (rd L xs (s18_3 + 3)).bind fun x199 =>
      (rd L xs (s18_3 + 4)).bind fun x204 =>
      (f_X6_enter c18_ x189 x194 x199 x204).bind fun r205 =>
      (rd L xs (s18_3 + 1)).bind fun x213 =>
      (rd L xs (s18_3 + 2)).bind fun x218 =>
      (rd L xs (s18_3 + 3)).bind fun x223 =>
      (rd L xs (s18_3 + 4)).bind fun x228 =>
      (f_X7_enter m18_ x213 x218 x223 x228).bind fun r229 =>
      if r205.1 = r229.1 then
        some (.inr (s18_3 + 5, r205.2, r229.2, l18_))
      else
        some (.inl (.inr 0))
    else
    if (x28 &&& 63) = 1 then
      (rd L xs (s18_3 + 1)).bind fun x242 =>
      (rd L xs (s18_3 + 2)).bind fun x247 =>
      (f_X6_mark c18_ x242 x247).bind fun r248 =>
      (rd L xs (s18_3 + 1)).bind fun x256 =>
      (rd L xs (s18_3 + 2)).bind fun x261 =>
      (f_X7_mark m18_ x256 x261).bind fun r262 =>
      if r248.1 = r262.1 then
        some (.inr (s18_3 + 5, r248.2, r262.2, l18_))
      else
        some (.inl (.inr 0))
    else
    if (x28 &&& 63) = 2 then
      (rd L xs (s18_3 + 1)).bind fun x275 =>
      (rd L xs (s18_3 + 2)).bind fun x280 =>
      (f_X6_ticket c18_ x275 x280).bind fun r281 =>
      (rd L xs (s18_3 + 1)).bind fun x289 =>
      (rd L xs (s18_3 + 2)).bind fun x294 =>
      (f_X7_ticket m18_ x289 x294).bind fun r295 =>
      if r281.1 = r295.1 then
        some (.inr (s18_3 + 5, r281.2, r295.2, l18_))
      else
        some (.inl (.inr 0))
    else
    if (x28 &&& 63) = 3 then
      (rd L xs (s18_3 + 1)).bind fun x308 =>
      (rd L xs (s18_3 + 2)).bind fun x313 =>
      (f_X6_kind c18_ x308 x313).bind fun r314 =>
      (rd L xs (s18_3 + 1)).bind fun x322 =>
      (rd L xs (s18_3 + 2)).bind fun x327 =>
      (f_X7_kind m18_ x322 x327).bind fun r328 =>
      if r314.1 = r328.1 then
        some (.inr (s18_3 + 5, r314.2, r328.2, l18_))
      else
        some (.inl (.inr 0))
    else
    if (x28 &&& 63) = 4 then
      (rd L xs (s18_3 + 1)).bind fun x341 =>
      (rd L xs (s18_3 + 2)).bind fun x346 =>
      (f_X6_groups c18_ x341 x346).bind fun r347 =>
      (rd L xs (s18_3 + 1)).bind fun x355 =>
      (rd L xs (s18_3 + 2)).bind fun x360 =>
      (f_X7_groups m18_ x355 x360).bind fun r361 =>
      if r347.1 = r361.1 then
        some (.inr (s18_3 + 5, r347.2, r361.2, l18_))
      else
        some (.inl (.inr 0))
    else
    if (x28 &&& 63) = 5 then
      (rd L xs (s18_3 + 1)).bind fun x374 =>
      (rd L xs (s18_3 + 2)).bind fun x379 =>
      (f_X6_ofPerson c18_ x374 x379).bind fun x380 =>
      (rd L xs (s18_3 + 1)).bind fun x388 =>
      (rd L xs (s18_3 + 2)).bind fun x393 =>
      (f_X7_ofPerson m18_ x388 x393).bind fun x394 =>
      if x380 = x394 then
        some (.inr (s18_3 + 5, c18_, m18_, l18_))
      else
        some (.inl (.inr 0))
    else
    if (x28 &&& 63) = 6 then
      (rd L xs (s18_3 + 1)).bind fun x407 =>
      (f_X6_ranked c18_ x407).bind fun r408 =>
      (rd L xs (s18_3 + 1)).bind fun x416 =>
      (f_X7_ranked m18_ x416).bind fun x417 =>
      if r408.1 = x417 then
        some (.inr (s18_3 + 5, r408.2, m18_, l18_))
      else
        some (.inl (.inr 0))
    else
    if (x28 &&& 63) = 7 then
      (rd L xs (s18_3 + 1)).bind fun x430 =>
      (f_X6_above c18_ x430).bind fun x431 =>
      (rd L xs (s18_3 + 1)).bind fun x439 =>
      (f_X7_above m18_ x439).bind fun x440 =>
      if x431 = x440 then
        some (.inr (s18_3 + 5, c18_, m18_, l18_))
      else
        some (.inl (.inr 0))
    else
    if (x28 &&& 63) = 8 then
      (rd L xs (s18_3 + 1)).bind fun x453 =>
      (f_X6_alike c18_ x453).bind fun x454 =>
      (rd L xs (s18_3 + 1)).bind fun x462 =>
      (f_X7_alike m18_ x462).bind fun x463 =>
      if x454 = x463 then
        some (.inr (s18_3 + 5, c18_, m18_, l18_))
      else
        some (.inl (.inr 0))
    else
    if (x28 &&& 63) = 9 then
      (rd L xs (s18_3 + 1)).bind fun x476 =>
      (rd L xs (s18_3 + 2)).bind fun x481 =>
      (f_X6_seats c18_ x476 x481).bind fun r482 =>
      (rd L xs (s18_3 + 1)).bind fun x490 =>
      (rd L xs (s18_3 + 2)).bind fun x495 =>
      (f_X7_seats m18_ x490 x495).bind fun r496 =>
      if r482.1 = r496.1 then
        some (.inr (s18_3 + 5, r482.2, r496.2, l18_))
      else
        some (.inl (.inr 0))
    else
    if (x28 &&& 63) = 10 then
      (rd L xs (s18_3 + 1)).bind fun x509 =>
      (rd L xs (s18_3 + 2)).bind fun x514 =>
      (rd L xs (s18_3 + 3)).bind fun x519 =>
      (f_X6_reserve c18_ x509 x514 x519).bind fun r520 =>
      (rd L xs (s18_3 + 1)).bind fun x528 =>
      (rd L xs (s18_3 + 2)).bind fun x533 =>
      (rd L xs (s18_3 + 3)).bind fun x538 =>
      (f_X7_reserve m18_ x528 x533 x538).bind fun r539 =>
      if r520.1 = r539.1 then
        some (.inr (s18_3 + 5, r520.2, r539.2, l18_))
      else
        some (.inl (.inr 0))
    else
    if (x28 &&& 63) = 11 then
      (rd L xs (s18_3 + 1)).bind fun x552 =>
      (rd L xs (s18_3 + 2)).bind fun x557 =>
      (f_X6_heir c18_ x552 x557).bind fun r558 =>
      (rd L xs (s18_3 + 1)).bind fun x566 =>
      (rd L xs (s18_3 + 2)).bind fun x571 =>
      (f_X7_heir m18_ x566 x571).bind fun r572 =>
      if r558.1 = r572.1 then
        some (.inr (s18_3 + 5, r558.2, r572.2, l18_))
      else
        some (.inl (.inr 0))
    else
    if (x28 &&& 63) = 12 then
      (rd L xs (s18_3 + 1)).bind fun x585 =>
      (f_X6_manner c18_ x585).bind fun r586 =>
      (rd L xs (s18_3 + 1)).bind fun x594 =>
      (f_X7_manner m18_ x594).bind fun r595 =>
      if r586.1 = r595.1 then
        some (.inr (s18_3 + 5, r586.2, r595.2, l18_))
      else
        some (.inl (.inr 0))
    else
    if (x28 &&& 63) = 13 then
      (rd L xs (s18_3 + 1)).bind fun x608 =>
      (rd L xs (s18_3 + 2)).bind fun x613 =>
      (rd L xs (s18_3 + 3)).bind fun x618 =>
      (rd L xs (s18_3 + 4)).bind fun x623 =>
      (f_X6_order c18_ x608 x613 x618 x623).bind fun r624 =>
      (rd L xs (s18_3 + 1)).bind fun x632 =>
      (rd L xs (s18_3 + 2)).bind fun x637 =>
      (rd L xs (s18_3 + 3)).bind fun x642 =>
      (rd L xs (s18_3 + 4)).bind fun x647 =>
      (f_X7_order m18_ x632 x637 x642 x647).bind fun r648 =>
      if r624.1 = r648.1 then
        some (.inr (s18_3 + 5, r624.2, r648.2, l18_))
      else
        some (.inl (.inr 0))
    else
    if (x28 &&& 63) = 14 then
      (rd L xs (s18_3 + 1)).bind fun x661 =>
      (f_X6_seat c18_ x661).bind fun r662 =>
      (rd L xs (s18_3 + 1)).bind fun x670 =>
      (f_X7_seat m18_ x670).bind fun r671 =>
      if r662.1 = r671.1 then
        some (.inr (s18_3 + 5, r662.2, r671.2, l18_))
      else
        some (.inl (.inr 0))
    else
    if (x28 &&& 63) = 15 then
      (rd L xs (s18_3 + 1)).bind fun x684 =>
      (f_X6_counted c18_ x684).bind fun r685 =>
      (rd L xs (s18_3 + 1)).bind fun x693 =>
      (f_X7_counted m18_ x693).bind fun r694 =>
      if r685.1 = r694.1 then
        some (.inr (s18_3 + 5, r685.2, r694.2, l18_))
      else
        some (.inl (.inr 0))
    else
    if (x28 &&& 63) = 16 then
      (rd L xs (s18_3 + 1)).bind fun x707 =>
      (f_X6_handed c18_ x707).bind fun r708 =>
      (rd L xs (s18_3 + 1)).bind fun x716 =>
      (f_X7_handed m18_ x716).bind fun r717 =>
      if r708.1 = r717.1 then
        some (.inr (s18_3 + 5, r708.2, r717.2, l18_))
      else
        some (.inl (.inr 0))
    else
    if (x28 &&& 63) = 17 then
      (rd L xs (s18_3 + 1)).bind fun x730 =>
      (rd L xs (s18_3 + 2)).bind fun x735 =>
      (f_X6_taken c18_ x730 x735).bind fun r736 =>
      (rd L xs (s18_3 + 1)).bind fun x744 =>
      (rd L xs (s18_3 + 2)).bind fun x749 =>
      (f_X7_taken m18_ x744 x749).bind fun r750 =>
      if r736.1 = r750.1 then
        some (.inr (s18_3 + 5, r736.2, r750.2, l18_))
      else
        some (.inl (.inr 0))
    else
    if (x28 &&& 63) = 18 then
      (rd L xs (s18_3 + 1)).bind fun x763 =>
      (rd L xs (s18_3 + 2)).bind fun x768 =>
      (f_X6_ofKind c18_ x763 x768).bind fun r769 =>
      (rd L xs (s18_3 + 1)).bind fun x777 =>
      (rd L xs (s18_3 + 2)).bind fun x782 =>
      (f_X7_ofKind m18_ x777 x782).bind fun r783 =>
      if r769.1 = r783.1 then
        some (.inr (s18_3 + 5, r769.2, r783.2, l18_))
      else
        some (.inl (.inr 0))
    else
    if (x28 &&& 63) = 19 then
      (rd L xs (s18_3 + 1)).bind fun x796 =>
      (f_X6_ways c18_ x796).bind fun r797 =>
      (rd L xs (s18_3 + 1)).bind fun x805 =>
      (f_X7_ways m18_ l18_ x805).bind fun r806 =>
      if (lg_cmp r797.1 r806.1) = 0 then
        some (.inr (s18_3 + 5, r797.2, r806.2.1, r806.2.2))
      else
        some (.inl (.inr 0))
    else
    if (x28 &&& 63) = 20 then
      (rd L xs (s18_3 + 1)).bind fun x820 =>
      (rd L xs (s18_3 + 2)).bind fun x825 =>
      (f_X6_by c18_ x820 x825).bind fun r826 =>
      (rd L xs (s18_3 + 1)).bind fun x834 =>
      (rd L xs (s18_3 + 2)).bind fun x839 =>
      (f_X7_by m18_ x834 x839).bind fun r840 =>
      if r826.1 = r840.1 then
        some (.inr (s18_3 + 5, r826.2, r840.2, l18_))
      else
        some (.inl (.inr 0))
    else
    if (x28 &&& 63) = 21 then
      (rd L xs (s18_3 + 1)).bind fun x853 =>
      (f_X6_sure c18_ x853).bind fun r854 =>
      (rd L xs (s18_3 + 1)).bind fun x862 =>
      (f_X7_sure m18_ x862).bind fun r863 =>
      if r854.1 = r863.1 then
        some (.inr (s18_3 + 5, r854.2, r863.2, l18_))
      else
        some (.inl (.inr 0))
    else
    if (x28 &&& 63) = 22 then
      (rd L xs (s18_3 + 1)).bind fun x876 =>
      (f_X6_threshold c18_ x876).bind fun r877 =>
      (rd L xs (s18_3 + 1)).bind fun x885 =>
      (f_X7_threshold m18_ x885).bind fun r886 =>
      if r877.1 = r886.1 then
        some (.inr (s18_3 + 5, r877.2, r886.2, l18_))
      else
        some (.inl (.inr 0))
    else
    if (x28 &&& 63) = 23 then
      (rd L xs (s18_3 + 1)).bind fun x899 =>
      (f_X6_claim c18_ x899).bind fun r900 =>
      (rd L xs (s18_3 + 1)).bind fun x908 =>
      (f_X7_claim m18_ x908).bind fun r909 =>
      if r900.1 = r909.1 then
        some (.inr (s18_3 + 5, r900.2, r909.2, l18_))
      else
        some (.inl (.inr 0))
    else
    if (x28 &&& 63) = 24 then
      (rd L xs (s18_3 + 1)).bind fun x922 =>
      (f_X6_successor c18_ x922).bind fun r923 =>
      (rd L xs (s18_3 + 1)).bind fun x931 =>
      (f_X7_successor m18_ x931).bind fun r932 =>
      if r923.1 = r932.1 then
        some (.inr (s18_3 + 5, r923.2, r932.2, l18_))
      else
        some (.inl (.inr 0))
    else
    if (x28 &&& 63) = 25 then
      (rd L xs (s18_3 + 1)).bind fun x945 =>
      (f_X6_passed c18_ x945).bind fun r946 =>
      (rd L xs (s18_3 + 1)).bind fun x954 =>
      (f_X7_passed m18_ x954).bind fun r955 =>
      if r946.1 = r955.1 then
        some (.inr (s18_3 + 5, r946.2, r955.2, l18_))
      else
        some (.inl (.inr 0))
    else
    if (x28 &&& 63) = 26 then
      (rd L xs (s18_3 + 1)).bind fun x968 =>
      (f_X6_nearest c18_ x968).bind fun r969 =>
      (rd L xs (s18_3 + 1)).bind fun x977 =>
      (f_X7_nearest m18_ x977).bind fun r978 =>
      if r969.1 = r978.1 then
        some (.inr (s18_3 + 5, r969.2, r978.2, l18_))
      else
        some (.inl (.inr 0))
    else
    if (x28 &&& 63) = 27 then
      (f_X6_envy c18_).bind fun r987 =>
      (f_X7_envy m18_).bind fun r991 =>
      if r987.1 = r991.1 then
        some (.inr (s18_3 + 5, r987.2, r991.2, l18_))
      else
        some (.inl (.inr 0))
    else
    if (x28 &&& 63) = 28 then
      (f_X6_round c18_).bind fun r1000 =>
      (f_X7_round m18_).bind fun r1004 =>
      if r1000.1 = r1004.1 then
        some (.inr (s18_3 + 5, r1000.2, r1004.2, l18_))
      else
        some (.inl (.inr 0))
    else
    if (x28 &&& 63) = 29 then
      (rd L xs (s18_3 + 1)).bind fun x1017 =>
      (rd L xs (s18_3 + 2)).bind fun x1022 =>
      (f_X6_answer c18_ x1017 x1022).bind fun r1023 =>
      (rd L xs (s18_3 + 1)).bind fun x1031 =>
      (rd L xs (s18_3 + 2)).bind fun x1036 =>
      (f_X7_answer m18_ x1031 x1036).bind fun r1037 =>
      if r1023.1 = r1037.1 then
        some (.inr (s18_3 + 5, r1023.2, r1037.2, l18_))
      else
        some (.inl (.inr 0))
    else
    if (x28 &&& 63) = 30 then
      (rd L xs (s18_3 + 1)).bind fun x1050 =>
      (f_X6_again c18_ x1050).bind fun r1051 =>
      (rd L xs (s18_3 + 1)).bind fun x1059 =>
      (f_X7_again m18_ x1059).bind fun r1060 =>
      if r1051.1 = r1060.1 then
        some (.inr (s18_3 + 5, r1051.2, r1060.2, l18_))
      else
        some (.inl (.inr 0))
    else
    if (x28 &&& 63) = 31 then
      (rd L xs (s18_3 + 1)).bind fun x1073 =>
      (rd L xs (s18_3 + 2)).bind fun x1078 =>
      (f_X6_note c18_ x1073 x1078).bind fun x1079 =>
      (rd L xs (s18_3 + 1)).bind fun x1087 =>
      (rd L xs (s18_3 + 2)).bind fun x1092 =>
      (f_X7_note m18_ x1087 x1092).bind fun x1093 =>
      if x1079 = x1093 then
        some (.inr (s18_3 + 5, c18_, m18_, l18_))
      else
        some (.inl (.inr 0))
    else
    if (x28 &&& 63) = 32 then
      (rd L xs (s18_3 + 1)).bind fun x1106 =>
      (f_X6_back c18_ x1106).bind fun r1107 =>
      (rd L xs (s18_3 + 1)).bind fun x1115 =>
      (f_X7_back m18_ x1115).bind fun r1116 =>
      if r1107.1 = r1116.1 then
        some (.inr (s18_3 + 5, r1107.2, r1116.2, l18_))
      else
        some (.inl (.inr 0))
    else
    if (x28 &&& 63) = 33 then
      (rd L xs (s18_3 + 1)).bind fun x1129 =>
      (f_X6_many c18_ x1129).bind fun r1130 =>
      (rd L xs (s18_3 + 1)).bind fun x1138 =>
      (f_X7_many m18_ x1138).bind fun r1139 =>
      if r1130.1 = r1139.1 then
        some (.inr (s18_3 + 5, r1130.2, r1139.2, l18_))
      else
        some (.inl (.inr 0))
    else
    some (.inr (s18_3 + 5, c18_, m18_, l18_))

def f_L_law (cm : CM) (mm : MM) (lm : LM) (L : Nat) (xs : Nat → Int32) : Option Int32 :=
  (itr (fun s : Int32 × CM × MM × LM => f_L_law_B18 L xs s.1 s.2.1 s.2.2.1 s.2.2.2) 2000 (0, cm, mm, lm)).bind fun ou => match ou with
  | .inr r => some r
  | .inl (s18_3, c18_, m18_, l18_) =>
  some 1

set_option maxHeartbeats 4000000 in
set_option maxRecDepth 20000 in
theorem law_J {Z : ZC} {X : XC} {cm : CM} {mm : MM} {lm : LM} {b L : Nat} {xs : Nat → Int32} (hX : Cx Z X cL_law 4 RL room_1) (HL : LX Z X b L xs) (h : f_L_law cm mm lm L xs = some 1) : J Z X 4 cm mm lm 16 [some (.ref b), some (.ref (ad Z 0 0)), some (.ref (ad Z 32 0)), none] [] := by
  have g : G (fun r : Int32 => r = (1 : Int32)) (f_L_law cm mm lm L xs) (J Z X 4 cm mm lm 16 [some (.ref b), some (.ref (ad Z 0 0)), some (.ref (ad Z 32 0)), none] []) := by
    unfold f_L_law
    refine g_iconst hX dL_law_16 ic_0 ?_
    refine g_istore_n hX dL_law_17 rfl (Nat.le_of_ble_eq_true rfl) rfl ?_
    refine g_loop (Hd := fun s : Int32 × CM × MM × LM => J Z X 4 s.2.1 s.2.2.1 s.2.2.2 18 [some (.ref b), some (.ref (ad Z 0 0)), some (.ref (ad Z 32 0)), some (.int s.1)] []) (Ex := fun ou : (Int32 × CM × MM × LM) ⊕ (Int32) => match ou with | .inl e => J Z X 4 e.2.1 e.2.2.1 e.2.2.2 1153 [some (.ref b), some (.ref (ad Z 0 0)), some (.ref (ad Z 32 0)), some (.int e.1)] [] | .inr r => r = (1 : Int32)) ?_ ?_
    · rintro ⟨s18_3, c18_, m18_, l18_⟩
      show G _ (f_L_law_B18 L xs s18_3 c18_ m18_ l18_) (J Z X 4 c18_ m18_ l18_ 18 [some (.ref b), some (.ref (ad Z 0 0)), some (.ref (ad Z 32 0)), some (.int s18_3)] [])
      unfold f_L_law_B18
      refine g_iload_n hX dL_law_18 rfl rfl ?_
      refine g_aload_n hX dL_law_19 rfl rfl ?_
      refine g_slen hX HL dL_law_20 ?_
      refine g_iconst hX dL_law_21 ic_5 ?_
      refine g_isub hX dL_law_22 ?_
      refine g_icmp_gt hX dL_law_23 (fun h23 => ?_) (fun h23 => ?_)
      · exact g_wk (lv0 := [some (.ref b), some (.ref (ad Z 0 0)), some (.ref (ad Z 32 0)), some (.int s18_3)]) ⟨rfl, rfl, rfl, rfl, trivial⟩ (g_end (fun h => h))
      · refine g_aload_n hX dL_law_26 rfl rfl ?_
        refine g_iload_n hX dL_law_27 rfl rfl ?_
        refine g_sld hX HL dL_law_28 ?_
        intro x28 hx28
        refine g_bipush hX dL_law_29 bp_63 ?_
        refine g_iand hX dL_law_31 ?_
        refine g_tsw hX dL_law_32 0 (by decide) (by decide) rfl rfl (fun h32_0 => ?_) (fun h32_0 => ?_)
        · refine g_aload_n hX dL_law_184 rfl rfl ?_
          refine g_aload_n hX dL_law_185 rfl rfl ?_
          refine g_iload_n hX dL_law_186 rfl rfl ?_
          refine g_iconst hX dL_law_187 ic_1 ?_
          refine g_iadd hX dL_law_188 ?_
          refine g_sld hX HL dL_law_189 ?_
          intro x189 hx189
          refine g_aload_n hX dL_law_190 rfl rfl ?_
          refine g_iload_n hX dL_law_191 rfl rfl ?_
          refine g_iconst hX dL_law_192 ic_2 ?_
          refine g_iadd hX dL_law_193 ?_
          refine g_sld hX HL dL_law_194 ?_
          intro x194 hx194
          refine g_aload_n hX dL_law_195 rfl rfl ?_
          refine g_iload_n hX dL_law_196 rfl rfl ?_
          refine g_iconst hX dL_law_197 ic_3 ?_
          refine g_iadd hX dL_law_198 ?_
          refine g_sld hX HL dL_law_199 ?_
          intro x199 hx199
          refine g_aload_n hX dL_law_200 rfl rfl ?_
          refine g_iload_n hX dL_law_201 rfl rfl ?_
          refine g_iconst hX dL_law_202 ic_4 ?_
          refine g_iadd hX dL_law_203 ?_
          refine g_sld hX HL dL_law_204 ?_
          intro x204 hx204
          refine g_callV hX (As := [.int x189, .int x194, .int x199, .int x204]) (fun r => (some (.int r.1))) (fun r => r.2) (fun _ => m18_) (fun _ => l18_) (fun r hr => c_X6_enter  hr) mi_X6_enter ml_L_13 p6_0 e6_0 rfl rfl rfl rfl rfl (Nat.le_of_ble_eq_true rfl) dL_law_205 ?_
          intro r205 hr205
          refine g_aload_n hX dL_law_208 rfl rfl ?_
          refine g_aload_n hX dL_law_209 rfl rfl ?_
          refine g_iload_n hX dL_law_210 rfl rfl ?_
          refine g_iconst hX dL_law_211 ic_1 ?_
          refine g_iadd hX dL_law_212 ?_
          refine g_sld hX HL dL_law_213 ?_
          intro x213 hx213
          refine g_aload_n hX dL_law_214 rfl rfl ?_
          refine g_iload_n hX dL_law_215 rfl rfl ?_
          refine g_iconst hX dL_law_216 ic_2 ?_
          refine g_iadd hX dL_law_217 ?_
          refine g_sld hX HL dL_law_218 ?_
          intro x218 hx218
          refine g_aload_n hX dL_law_219 rfl rfl ?_
          refine g_iload_n hX dL_law_220 rfl rfl ?_
          refine g_iconst hX dL_law_221 ic_3 ?_
          refine g_iadd hX dL_law_222 ?_
          refine g_sld hX HL dL_law_223 ?_
          intro x223 hx223
          refine g_aload_n hX dL_law_224 rfl rfl ?_
          refine g_iload_n hX dL_law_225 rfl rfl ?_
          refine g_iconst hX dL_law_226 ic_4 ?_
          refine g_iadd hX dL_law_227 ?_
          refine g_sld hX HL dL_law_228 ?_
          intro x228 hx228
          refine g_callV hX (As := [.int x213, .int x218, .int x223, .int x228]) (fun r => (some (.int r.1))) (fun _ => r205.2) (fun r => r.2) (fun _ => l18_) (fun r hr => c_X7_enter  hr) mi_X7_enter ml_L_17 p7_0 e7_0 rfl rfl rfl rfl rfl (Nat.le_of_ble_eq_true rfl) dL_law_229 ?_
          intro r229 hr229
          refine g_icmp_eq hX dL_law_232 (fun h232 => ?_) (fun h232 => ?_)
          · refine g_iinc hX dL_law_1147 ic_5 rfl (Nat.le_of_ble_eq_true rfl) rfl ?_
            refine g_goto hX dL_law_1150 ?_
            exact g_wk (lv0 := [some (.ref b), some (.ref (ad Z 0 0)), some (.ref (ad Z 32 0)), some (.int (s18_3 + 5))]) ⟨rfl, rfl, rfl, rfl, trivial⟩ (g_end (fun h => h))
          · refine g_iconst hX dL_law_235 ic_0 ?_
            exact g_lawret hX HL (fun h => h) dL_law_236
        refine g_tsw hX dL_law_32 1 (by decide) (by decide) rfl rfl (fun h32_1 => ?_) (fun h32_1 => ?_)
        · refine g_aload_n hX dL_law_237 rfl rfl ?_
          refine g_aload_n hX dL_law_238 rfl rfl ?_
          refine g_iload_n hX dL_law_239 rfl rfl ?_
          refine g_iconst hX dL_law_240 ic_1 ?_
          refine g_iadd hX dL_law_241 ?_
          refine g_sld hX HL dL_law_242 ?_
          intro x242 hx242
          refine g_aload_n hX dL_law_243 rfl rfl ?_
          refine g_iload_n hX dL_law_244 rfl rfl ?_
          refine g_iconst hX dL_law_245 ic_2 ?_
          refine g_iadd hX dL_law_246 ?_
          refine g_sld hX HL dL_law_247 ?_
          intro x247 hx247
          refine g_callV hX (As := [.int x242, .int x247]) (fun r => (some (.int r.1))) (fun r => r.2) (fun _ => m18_) (fun _ => l18_) (fun r hr => c_X6_mark  hr) mi_X6_mark ml_L_18 p6_0 e6_0 rfl rfl rfl rfl rfl (Nat.le_of_ble_eq_true rfl) dL_law_248 ?_
          intro r248 hr248
          refine g_aload_n hX dL_law_251 rfl rfl ?_
          refine g_aload_n hX dL_law_252 rfl rfl ?_
          refine g_iload_n hX dL_law_253 rfl rfl ?_
          refine g_iconst hX dL_law_254 ic_1 ?_
          refine g_iadd hX dL_law_255 ?_
          refine g_sld hX HL dL_law_256 ?_
          intro x256 hx256
          refine g_aload_n hX dL_law_257 rfl rfl ?_
          refine g_iload_n hX dL_law_258 rfl rfl ?_
          refine g_iconst hX dL_law_259 ic_2 ?_
          refine g_iadd hX dL_law_260 ?_
          refine g_sld hX HL dL_law_261 ?_
          intro x261 hx261
          refine g_callV hX (As := [.int x256, .int x261]) (fun r => (some (.int r.1))) (fun _ => r248.2) (fun r => r.2) (fun _ => l18_) (fun r hr => c_X7_mark  hr) mi_X7_mark ml_L_22 p7_0 e7_0 rfl rfl rfl rfl rfl (Nat.le_of_ble_eq_true rfl) dL_law_262 ?_
          intro r262 hr262
          refine g_icmp_eq hX dL_law_265 (fun h265 => ?_) (fun h265 => ?_)
          · refine g_iinc hX dL_law_1147 ic_5 rfl (Nat.le_of_ble_eq_true rfl) rfl ?_
            refine g_goto hX dL_law_1150 ?_
            exact g_wk (lv0 := [some (.ref b), some (.ref (ad Z 0 0)), some (.ref (ad Z 32 0)), some (.int (s18_3 + 5))]) ⟨rfl, rfl, rfl, rfl, trivial⟩ (g_end (fun h => h))
          · refine g_iconst hX dL_law_268 ic_0 ?_
            exact g_lawret hX HL (fun h => h) dL_law_269
        refine g_tsw hX dL_law_32 2 (by decide) (by decide) rfl rfl (fun h32_2 => ?_) (fun h32_2 => ?_)
        · refine g_aload_n hX dL_law_270 rfl rfl ?_
          refine g_aload_n hX dL_law_271 rfl rfl ?_
          refine g_iload_n hX dL_law_272 rfl rfl ?_
          refine g_iconst hX dL_law_273 ic_1 ?_
          refine g_iadd hX dL_law_274 ?_
          refine g_sld hX HL dL_law_275 ?_
          intro x275 hx275
          refine g_aload_n hX dL_law_276 rfl rfl ?_
          refine g_iload_n hX dL_law_277 rfl rfl ?_
          refine g_iconst hX dL_law_278 ic_2 ?_
          refine g_iadd hX dL_law_279 ?_
          refine g_sld hX HL dL_law_280 ?_
          intro x280 hx280
          refine g_callV hX (As := [.int x275, .int x280]) (fun r => (some (.int r.1))) (fun r => r.2) (fun _ => m18_) (fun _ => l18_) (fun r hr => c_X6_ticket  hr) mi_X6_ticket ml_L_23 p6_0 e6_0 rfl rfl rfl rfl rfl (Nat.le_of_ble_eq_true rfl) dL_law_281 ?_
          intro r281 hr281
          refine g_aload_n hX dL_law_284 rfl rfl ?_
          refine g_aload_n hX dL_law_285 rfl rfl ?_
          refine g_iload_n hX dL_law_286 rfl rfl ?_
          refine g_iconst hX dL_law_287 ic_1 ?_
          refine g_iadd hX dL_law_288 ?_
          refine g_sld hX HL dL_law_289 ?_
          intro x289 hx289
          refine g_aload_n hX dL_law_290 rfl rfl ?_
          refine g_iload_n hX dL_law_291 rfl rfl ?_
          refine g_iconst hX dL_law_292 ic_2 ?_
          refine g_iadd hX dL_law_293 ?_
          refine g_sld hX HL dL_law_294 ?_
          intro x294 hx294
          refine g_callV hX (As := [.int x289, .int x294]) (fun r => (some (.int r.1))) (fun _ => r281.2) (fun r => r.2) (fun _ => l18_) (fun r hr => c_X7_ticket  hr) mi_X7_ticket ml_L_26 p7_0 e7_0 rfl rfl rfl rfl rfl (Nat.le_of_ble_eq_true rfl) dL_law_295 ?_
          intro r295 hr295
          refine g_icmp_eq hX dL_law_298 (fun h298 => ?_) (fun h298 => ?_)
          · refine g_iinc hX dL_law_1147 ic_5 rfl (Nat.le_of_ble_eq_true rfl) rfl ?_
            refine g_goto hX dL_law_1150 ?_
            exact g_wk (lv0 := [some (.ref b), some (.ref (ad Z 0 0)), some (.ref (ad Z 32 0)), some (.int (s18_3 + 5))]) ⟨rfl, rfl, rfl, rfl, trivial⟩ (g_end (fun h => h))
          · refine g_iconst hX dL_law_301 ic_0 ?_
            exact g_lawret hX HL (fun h => h) dL_law_302
        refine g_tsw hX dL_law_32 3 (by decide) (by decide) rfl rfl (fun h32_3 => ?_) (fun h32_3 => ?_)
        · refine g_aload_n hX dL_law_303 rfl rfl ?_
          refine g_aload_n hX dL_law_304 rfl rfl ?_
          refine g_iload_n hX dL_law_305 rfl rfl ?_
          refine g_iconst hX dL_law_306 ic_1 ?_
          refine g_iadd hX dL_law_307 ?_
          refine g_sld hX HL dL_law_308 ?_
          intro x308 hx308
          refine g_aload_n hX dL_law_309 rfl rfl ?_
          refine g_iload_n hX dL_law_310 rfl rfl ?_
          refine g_iconst hX dL_law_311 ic_2 ?_
          refine g_iadd hX dL_law_312 ?_
          refine g_sld hX HL dL_law_313 ?_
          intro x313 hx313
          refine g_callV hX (As := [.int x308, .int x313]) (fun r => (some (.int r.1))) (fun r => r.2) (fun _ => m18_) (fun _ => l18_) (fun r hr => c_X6_kind  hr) mi_X6_kind ml_L_27 p6_0 e6_0 rfl rfl rfl rfl rfl (Nat.le_of_ble_eq_true rfl) dL_law_314 ?_
          intro r314 hr314
          refine g_aload_n hX dL_law_317 rfl rfl ?_
          refine g_aload_n hX dL_law_318 rfl rfl ?_
          refine g_iload_n hX dL_law_319 rfl rfl ?_
          refine g_iconst hX dL_law_320 ic_1 ?_
          refine g_iadd hX dL_law_321 ?_
          refine g_sld hX HL dL_law_322 ?_
          intro x322 hx322
          refine g_aload_n hX dL_law_323 rfl rfl ?_
          refine g_iload_n hX dL_law_324 rfl rfl ?_
          refine g_iconst hX dL_law_325 ic_2 ?_
          refine g_iadd hX dL_law_326 ?_
          refine g_sld hX HL dL_law_327 ?_
          intro x327 hx327
          refine g_callV hX (As := [.int x322, .int x327]) (fun r => (some (.int r.1))) (fun _ => r314.2) (fun r => r.2) (fun _ => l18_) (fun r hr => c_X7_kind  hr) mi_X7_kind ml_L_30 p7_0 e7_0 rfl rfl rfl rfl rfl (Nat.le_of_ble_eq_true rfl) dL_law_328 ?_
          intro r328 hr328
          refine g_icmp_eq hX dL_law_331 (fun h331 => ?_) (fun h331 => ?_)
          · refine g_iinc hX dL_law_1147 ic_5 rfl (Nat.le_of_ble_eq_true rfl) rfl ?_
            refine g_goto hX dL_law_1150 ?_
            exact g_wk (lv0 := [some (.ref b), some (.ref (ad Z 0 0)), some (.ref (ad Z 32 0)), some (.int (s18_3 + 5))]) ⟨rfl, rfl, rfl, rfl, trivial⟩ (g_end (fun h => h))
          · refine g_iconst hX dL_law_334 ic_0 ?_
            exact g_lawret hX HL (fun h => h) dL_law_335
        refine g_tsw hX dL_law_32 4 (by decide) (by decide) rfl rfl (fun h32_4 => ?_) (fun h32_4 => ?_)
        · refine g_aload_n hX dL_law_336 rfl rfl ?_
          refine g_aload_n hX dL_law_337 rfl rfl ?_
          refine g_iload_n hX dL_law_338 rfl rfl ?_
          refine g_iconst hX dL_law_339 ic_1 ?_
          refine g_iadd hX dL_law_340 ?_
          refine g_sld hX HL dL_law_341 ?_
          intro x341 hx341
          refine g_aload_n hX dL_law_342 rfl rfl ?_
          refine g_iload_n hX dL_law_343 rfl rfl ?_
          refine g_iconst hX dL_law_344 ic_2 ?_
          refine g_iadd hX dL_law_345 ?_
          refine g_sld hX HL dL_law_346 ?_
          intro x346 hx346
          refine g_callV hX (As := [.int x341, .int x346]) (fun r => (some (.int r.1))) (fun r => r.2) (fun _ => m18_) (fun _ => l18_) (fun r hr => c_X6_groups  hr) mi_X6_groups ml_L_31 p6_0 e6_0 rfl rfl rfl rfl rfl (Nat.le_of_ble_eq_true rfl) dL_law_347 ?_
          intro r347 hr347
          refine g_aload_n hX dL_law_350 rfl rfl ?_
          refine g_aload_n hX dL_law_351 rfl rfl ?_
          refine g_iload_n hX dL_law_352 rfl rfl ?_
          refine g_iconst hX dL_law_353 ic_1 ?_
          refine g_iadd hX dL_law_354 ?_
          refine g_sld hX HL dL_law_355 ?_
          intro x355 hx355
          refine g_aload_n hX dL_law_356 rfl rfl ?_
          refine g_iload_n hX dL_law_357 rfl rfl ?_
          refine g_iconst hX dL_law_358 ic_2 ?_
          refine g_iadd hX dL_law_359 ?_
          refine g_sld hX HL dL_law_360 ?_
          intro x360 hx360
          refine g_callV hX (As := [.int x355, .int x360]) (fun r => (some (.int r.1))) (fun _ => r347.2) (fun r => r.2) (fun _ => l18_) (fun r hr => c_X7_groups  hr) mi_X7_groups ml_L_34 p7_0 e7_0 rfl rfl rfl rfl rfl (Nat.le_of_ble_eq_true rfl) dL_law_361 ?_
          intro r361 hr361
          refine g_icmp_eq hX dL_law_364 (fun h364 => ?_) (fun h364 => ?_)
          · refine g_iinc hX dL_law_1147 ic_5 rfl (Nat.le_of_ble_eq_true rfl) rfl ?_
            refine g_goto hX dL_law_1150 ?_
            exact g_wk (lv0 := [some (.ref b), some (.ref (ad Z 0 0)), some (.ref (ad Z 32 0)), some (.int (s18_3 + 5))]) ⟨rfl, rfl, rfl, rfl, trivial⟩ (g_end (fun h => h))
          · refine g_iconst hX dL_law_367 ic_0 ?_
            exact g_lawret hX HL (fun h => h) dL_law_368
        refine g_tsw hX dL_law_32 5 (by decide) (by decide) rfl rfl (fun h32_5 => ?_) (fun h32_5 => ?_)
        · refine g_aload_n hX dL_law_369 rfl rfl ?_
          refine g_aload_n hX dL_law_370 rfl rfl ?_
          refine g_iload_n hX dL_law_371 rfl rfl ?_
          refine g_iconst hX dL_law_372 ic_1 ?_
          refine g_iadd hX dL_law_373 ?_
          refine g_sld hX HL dL_law_374 ?_
          intro x374 hx374
          refine g_aload_n hX dL_law_375 rfl rfl ?_
          refine g_iload_n hX dL_law_376 rfl rfl ?_
          refine g_iconst hX dL_law_377 ic_2 ?_
          refine g_iadd hX dL_law_378 ?_
          refine g_sld hX HL dL_law_379 ?_
          intro x379 hx379
          refine g_callV hX (As := [.int x374, .int x379]) (fun r => (some (.int r))) (fun _ => c18_) (fun _ => m18_) (fun _ => l18_) (fun r hr => c_X6_ofPerson  hr) mi_X6_ofPerson ml_L_35 p6_0 e6_0 rfl rfl rfl rfl rfl (Nat.le_of_ble_eq_true rfl) dL_law_380 ?_
          intro x380 hx380
          refine g_aload_n hX dL_law_383 rfl rfl ?_
          refine g_aload_n hX dL_law_384 rfl rfl ?_
          refine g_iload_n hX dL_law_385 rfl rfl ?_
          refine g_iconst hX dL_law_386 ic_1 ?_
          refine g_iadd hX dL_law_387 ?_
          refine g_sld hX HL dL_law_388 ?_
          intro x388 hx388
          refine g_aload_n hX dL_law_389 rfl rfl ?_
          refine g_iload_n hX dL_law_390 rfl rfl ?_
          refine g_iconst hX dL_law_391 ic_2 ?_
          refine g_iadd hX dL_law_392 ?_
          refine g_sld hX HL dL_law_393 ?_
          intro x393 hx393
          refine g_callV hX (As := [.int x388, .int x393]) (fun r => (some (.int r))) (fun _ => c18_) (fun _ => m18_) (fun _ => l18_) (fun r hr => c_X7_ofPerson  hr) mi_X7_ofPerson ml_L_38 p7_0 e7_0 rfl rfl rfl rfl rfl (Nat.le_of_ble_eq_true rfl) dL_law_394 ?_
          intro x394 hx394
          refine g_icmp_eq hX dL_law_397 (fun h397 => ?_) (fun h397 => ?_)
          · refine g_iinc hX dL_law_1147 ic_5 rfl (Nat.le_of_ble_eq_true rfl) rfl ?_
            refine g_goto hX dL_law_1150 ?_
            exact g_wk (lv0 := [some (.ref b), some (.ref (ad Z 0 0)), some (.ref (ad Z 32 0)), some (.int (s18_3 + 5))]) ⟨rfl, rfl, rfl, rfl, trivial⟩ (g_end (fun h => h))
          · refine g_iconst hX dL_law_400 ic_0 ?_
            exact g_lawret hX HL (fun h => h) dL_law_401
        refine g_tsw hX dL_law_32 6 (by decide) (by decide) rfl rfl (fun h32_6 => ?_) (fun h32_6 => ?_)
        · refine g_aload_n hX dL_law_402 rfl rfl ?_
          refine g_aload_n hX dL_law_403 rfl rfl ?_
          refine g_iload_n hX dL_law_404 rfl rfl ?_
          refine g_iconst hX dL_law_405 ic_1 ?_
          refine g_iadd hX dL_law_406 ?_
          refine g_sld hX HL dL_law_407 ?_
          intro x407 hx407
          refine g_callV hX (As := [.int x407]) (fun r => (some (.int r.1))) (fun r => r.2) (fun _ => m18_) (fun _ => l18_) (fun r hr => c_X6_ranked  hr) mi_X6_ranked ml_L_39 p6_0 e6_0 rfl rfl rfl rfl rfl (Nat.le_of_ble_eq_true rfl) dL_law_408 ?_
          intro r408 hr408
          refine g_aload_n hX dL_law_411 rfl rfl ?_
          refine g_aload_n hX dL_law_412 rfl rfl ?_
          refine g_iload_n hX dL_law_413 rfl rfl ?_
          refine g_iconst hX dL_law_414 ic_1 ?_
          refine g_iadd hX dL_law_415 ?_
          refine g_sld hX HL dL_law_416 ?_
          intro x416 hx416
          refine g_callV hX (As := [.int x416]) (fun r => (some (.int r))) (fun _ => r408.2) (fun _ => m18_) (fun _ => l18_) (fun r hr => c_X7_ranked  hr) mi_X7_ranked ml_L_43 p7_0 e7_0 rfl rfl rfl rfl rfl (Nat.le_of_ble_eq_true rfl) dL_law_417 ?_
          intro x417 hx417
          refine g_icmp_eq hX dL_law_420 (fun h420 => ?_) (fun h420 => ?_)
          · refine g_iinc hX dL_law_1147 ic_5 rfl (Nat.le_of_ble_eq_true rfl) rfl ?_
            refine g_goto hX dL_law_1150 ?_
            exact g_wk (lv0 := [some (.ref b), some (.ref (ad Z 0 0)), some (.ref (ad Z 32 0)), some (.int (s18_3 + 5))]) ⟨rfl, rfl, rfl, rfl, trivial⟩ (g_end (fun h => h))
          · refine g_iconst hX dL_law_423 ic_0 ?_
            exact g_lawret hX HL (fun h => h) dL_law_424
        refine g_tsw hX dL_law_32 7 (by decide) (by decide) rfl rfl (fun h32_7 => ?_) (fun h32_7 => ?_)
        · refine g_aload_n hX dL_law_425 rfl rfl ?_
          refine g_aload_n hX dL_law_426 rfl rfl ?_
          refine g_iload_n hX dL_law_427 rfl rfl ?_
          refine g_iconst hX dL_law_428 ic_1 ?_
          refine g_iadd hX dL_law_429 ?_
          refine g_sld hX HL dL_law_430 ?_
          intro x430 hx430
          refine g_callV hX (As := [.int x430]) (fun r => (some (.int r))) (fun _ => c18_) (fun _ => m18_) (fun _ => l18_) (fun r hr => c_X6_above  hr) mi_X6_above ml_L_44 p6_0 e6_0 rfl rfl rfl rfl rfl (Nat.le_of_ble_eq_true rfl) dL_law_431 ?_
          intro x431 hx431
          refine g_aload_n hX dL_law_434 rfl rfl ?_
          refine g_aload_n hX dL_law_435 rfl rfl ?_
          refine g_iload_n hX dL_law_436 rfl rfl ?_
          refine g_iconst hX dL_law_437 ic_1 ?_
          refine g_iadd hX dL_law_438 ?_
          refine g_sld hX HL dL_law_439 ?_
          intro x439 hx439
          refine g_callV hX (As := [.int x439]) (fun r => (some (.int r))) (fun _ => c18_) (fun _ => m18_) (fun _ => l18_) (fun r hr => c_X7_above  hr) mi_X7_above ml_L_47 p7_0 e7_0 rfl rfl rfl rfl rfl (Nat.le_of_ble_eq_true rfl) dL_law_440 ?_
          intro x440 hx440
          refine g_icmp_eq hX dL_law_443 (fun h443 => ?_) (fun h443 => ?_)
          · refine g_iinc hX dL_law_1147 ic_5 rfl (Nat.le_of_ble_eq_true rfl) rfl ?_
            refine g_goto hX dL_law_1150 ?_
            exact g_wk (lv0 := [some (.ref b), some (.ref (ad Z 0 0)), some (.ref (ad Z 32 0)), some (.int (s18_3 + 5))]) ⟨rfl, rfl, rfl, rfl, trivial⟩ (g_end (fun h => h))
          · refine g_iconst hX dL_law_446 ic_0 ?_
            exact g_lawret hX HL (fun h => h) dL_law_447
        refine g_tsw hX dL_law_32 8 (by decide) (by decide) rfl rfl (fun h32_8 => ?_) (fun h32_8 => ?_)
        · refine g_aload_n hX dL_law_448 rfl rfl ?_
          refine g_aload_n hX dL_law_449 rfl rfl ?_
          refine g_iload_n hX dL_law_450 rfl rfl ?_
          refine g_iconst hX dL_law_451 ic_1 ?_
          refine g_iadd hX dL_law_452 ?_
          refine g_sld hX HL dL_law_453 ?_
          intro x453 hx453
          refine g_callV hX (As := [.int x453]) (fun r => (some (.int r))) (fun _ => c18_) (fun _ => m18_) (fun _ => l18_) (fun r hr => c_X6_alike  hr) mi_X6_alike ml_L_48 p6_0 e6_0 rfl rfl rfl rfl rfl (Nat.le_of_ble_eq_true rfl) dL_law_454 ?_
          intro x454 hx454
          refine g_aload_n hX dL_law_457 rfl rfl ?_
          refine g_aload_n hX dL_law_458 rfl rfl ?_
          refine g_iload_n hX dL_law_459 rfl rfl ?_
          refine g_iconst hX dL_law_460 ic_1 ?_
          refine g_iadd hX dL_law_461 ?_
          refine g_sld hX HL dL_law_462 ?_
          intro x462 hx462
          refine g_callV hX (As := [.int x462]) (fun r => (some (.int r))) (fun _ => c18_) (fun _ => m18_) (fun _ => l18_) (fun r hr => c_X7_alike  hr) mi_X7_alike ml_L_51 p7_0 e7_0 rfl rfl rfl rfl rfl (Nat.le_of_ble_eq_true rfl) dL_law_463 ?_
          intro x463 hx463
          refine g_icmp_eq hX dL_law_466 (fun h466 => ?_) (fun h466 => ?_)
          · refine g_iinc hX dL_law_1147 ic_5 rfl (Nat.le_of_ble_eq_true rfl) rfl ?_
            refine g_goto hX dL_law_1150 ?_
            exact g_wk (lv0 := [some (.ref b), some (.ref (ad Z 0 0)), some (.ref (ad Z 32 0)), some (.int (s18_3 + 5))]) ⟨rfl, rfl, rfl, rfl, trivial⟩ (g_end (fun h => h))
          · refine g_iconst hX dL_law_469 ic_0 ?_
            exact g_lawret hX HL (fun h => h) dL_law_470
        refine g_tsw hX dL_law_32 9 (by decide) (by decide) rfl rfl (fun h32_9 => ?_) (fun h32_9 => ?_)
        · refine g_aload_n hX dL_law_471 rfl rfl ?_
          refine g_aload_n hX dL_law_472 rfl rfl ?_
          refine g_iload_n hX dL_law_473 rfl rfl ?_
          refine g_iconst hX dL_law_474 ic_1 ?_
          refine g_iadd hX dL_law_475 ?_
          refine g_sld hX HL dL_law_476 ?_
          intro x476 hx476
          refine g_aload_n hX dL_law_477 rfl rfl ?_
          refine g_iload_n hX dL_law_478 rfl rfl ?_
          refine g_iconst hX dL_law_479 ic_2 ?_
          refine g_iadd hX dL_law_480 ?_
          refine g_sld hX HL dL_law_481 ?_
          intro x481 hx481
          refine g_callV hX (As := [.int x476, .int x481]) (fun r => (some (.int r.1))) (fun r => r.2) (fun _ => m18_) (fun _ => l18_) (fun r hr => c_X6_seats  hr) mi_X6_seats ml_L_52 p6_0 e6_0 rfl rfl rfl rfl rfl (Nat.le_of_ble_eq_true rfl) dL_law_482 ?_
          intro r482 hr482
          refine g_aload_n hX dL_law_485 rfl rfl ?_
          refine g_aload_n hX dL_law_486 rfl rfl ?_
          refine g_iload_n hX dL_law_487 rfl rfl ?_
          refine g_iconst hX dL_law_488 ic_1 ?_
          refine g_iadd hX dL_law_489 ?_
          refine g_sld hX HL dL_law_490 ?_
          intro x490 hx490
          refine g_aload_n hX dL_law_491 rfl rfl ?_
          refine g_iload_n hX dL_law_492 rfl rfl ?_
          refine g_iconst hX dL_law_493 ic_2 ?_
          refine g_iadd hX dL_law_494 ?_
          refine g_sld hX HL dL_law_495 ?_
          intro x495 hx495
          refine g_callV hX (As := [.int x490, .int x495]) (fun r => (some (.int r.1))) (fun _ => r482.2) (fun r => r.2) (fun _ => l18_) (fun r hr => c_X7_seats  hr) mi_X7_seats ml_L_55 p7_0 e7_0 rfl rfl rfl rfl rfl (Nat.le_of_ble_eq_true rfl) dL_law_496 ?_
          intro r496 hr496
          refine g_icmp_eq hX dL_law_499 (fun h499 => ?_) (fun h499 => ?_)
          · refine g_iinc hX dL_law_1147 ic_5 rfl (Nat.le_of_ble_eq_true rfl) rfl ?_
            refine g_goto hX dL_law_1150 ?_
            exact g_wk (lv0 := [some (.ref b), some (.ref (ad Z 0 0)), some (.ref (ad Z 32 0)), some (.int (s18_3 + 5))]) ⟨rfl, rfl, rfl, rfl, trivial⟩ (g_end (fun h => h))
          · refine g_iconst hX dL_law_502 ic_0 ?_
            exact g_lawret hX HL (fun h => h) dL_law_503
        refine g_tsw hX dL_law_32 10 (by decide) (by decide) rfl rfl (fun h32_10 => ?_) (fun h32_10 => ?_)
        · refine g_aload_n hX dL_law_504 rfl rfl ?_
          refine g_aload_n hX dL_law_505 rfl rfl ?_
          refine g_iload_n hX dL_law_506 rfl rfl ?_
          refine g_iconst hX dL_law_507 ic_1 ?_
          refine g_iadd hX dL_law_508 ?_
          refine g_sld hX HL dL_law_509 ?_
          intro x509 hx509
          refine g_aload_n hX dL_law_510 rfl rfl ?_
          refine g_iload_n hX dL_law_511 rfl rfl ?_
          refine g_iconst hX dL_law_512 ic_2 ?_
          refine g_iadd hX dL_law_513 ?_
          refine g_sld hX HL dL_law_514 ?_
          intro x514 hx514
          refine g_aload_n hX dL_law_515 rfl rfl ?_
          refine g_iload_n hX dL_law_516 rfl rfl ?_
          refine g_iconst hX dL_law_517 ic_3 ?_
          refine g_iadd hX dL_law_518 ?_
          refine g_sld hX HL dL_law_519 ?_
          intro x519 hx519
          refine g_callV hX (As := [.int x509, .int x514, .int x519]) (fun r => (some (.int r.1))) (fun r => r.2) (fun _ => m18_) (fun _ => l18_) (fun r hr => c_X6_reserve  hr) mi_X6_reserve ml_L_56 p6_0 e6_0 rfl rfl rfl rfl rfl (Nat.le_of_ble_eq_true rfl) dL_law_520 ?_
          intro r520 hr520
          refine g_aload_n hX dL_law_523 rfl rfl ?_
          refine g_aload_n hX dL_law_524 rfl rfl ?_
          refine g_iload_n hX dL_law_525 rfl rfl ?_
          refine g_iconst hX dL_law_526 ic_1 ?_
          refine g_iadd hX dL_law_527 ?_
          refine g_sld hX HL dL_law_528 ?_
          intro x528 hx528
          refine g_aload_n hX dL_law_529 rfl rfl ?_
          refine g_iload_n hX dL_law_530 rfl rfl ?_
          refine g_iconst hX dL_law_531 ic_2 ?_
          refine g_iadd hX dL_law_532 ?_
          refine g_sld hX HL dL_law_533 ?_
          intro x533 hx533
          refine g_aload_n hX dL_law_534 rfl rfl ?_
          refine g_iload_n hX dL_law_535 rfl rfl ?_
          refine g_iconst hX dL_law_536 ic_3 ?_
          refine g_iadd hX dL_law_537 ?_
          refine g_sld hX HL dL_law_538 ?_
          intro x538 hx538
          refine g_callV hX (As := [.int x528, .int x533, .int x538]) (fun r => (some (.int r.1))) (fun _ => r520.2) (fun r => r.2) (fun _ => l18_) (fun r hr => c_X7_reserve  hr) mi_X7_reserve ml_L_60 p7_0 e7_0 rfl rfl rfl rfl rfl (Nat.le_of_ble_eq_true rfl) dL_law_539 ?_
          intro r539 hr539
          refine g_icmp_eq hX dL_law_542 (fun h542 => ?_) (fun h542 => ?_)
          · refine g_iinc hX dL_law_1147 ic_5 rfl (Nat.le_of_ble_eq_true rfl) rfl ?_
            refine g_goto hX dL_law_1150 ?_
            exact g_wk (lv0 := [some (.ref b), some (.ref (ad Z 0 0)), some (.ref (ad Z 32 0)), some (.int (s18_3 + 5))]) ⟨rfl, rfl, rfl, rfl, trivial⟩ (g_end (fun h => h))
          · refine g_iconst hX dL_law_545 ic_0 ?_
            exact g_lawret hX HL (fun h => h) dL_law_546
        refine g_tsw hX dL_law_32 11 (by decide) (by decide) rfl rfl (fun h32_11 => ?_) (fun h32_11 => ?_)
        · refine g_aload_n hX dL_law_547 rfl rfl ?_
          refine g_aload_n hX dL_law_548 rfl rfl ?_
          refine g_iload_n hX dL_law_549 rfl rfl ?_
          refine g_iconst hX dL_law_550 ic_1 ?_
          refine g_iadd hX dL_law_551 ?_
          refine g_sld hX HL dL_law_552 ?_
          intro x552 hx552
          refine g_aload_n hX dL_law_553 rfl rfl ?_
          refine g_iload_n hX dL_law_554 rfl rfl ?_
          refine g_iconst hX dL_law_555 ic_2 ?_
          refine g_iadd hX dL_law_556 ?_
          refine g_sld hX HL dL_law_557 ?_
          intro x557 hx557
          refine g_callV hX (As := [.int x552, .int x557]) (fun r => (some (.int r.1))) (fun r => r.2) (fun _ => m18_) (fun _ => l18_) (fun r hr => c_X6_heir  hr) mi_X6_heir ml_L_61 p6_0 e6_0 rfl rfl rfl rfl rfl (Nat.le_of_ble_eq_true rfl) dL_law_558 ?_
          intro r558 hr558
          refine g_aload_n hX dL_law_561 rfl rfl ?_
          refine g_aload_n hX dL_law_562 rfl rfl ?_
          refine g_iload_n hX dL_law_563 rfl rfl ?_
          refine g_iconst hX dL_law_564 ic_1 ?_
          refine g_iadd hX dL_law_565 ?_
          refine g_sld hX HL dL_law_566 ?_
          intro x566 hx566
          refine g_aload_n hX dL_law_567 rfl rfl ?_
          refine g_iload_n hX dL_law_568 rfl rfl ?_
          refine g_iconst hX dL_law_569 ic_2 ?_
          refine g_iadd hX dL_law_570 ?_
          refine g_sld hX HL dL_law_571 ?_
          intro x571 hx571
          refine g_callV hX (As := [.int x566, .int x571]) (fun r => (some (.int r.1))) (fun _ => r558.2) (fun r => r.2) (fun _ => l18_) (fun r hr => c_X7_heir  hr) mi_X7_heir ml_L_64 p7_0 e7_0 rfl rfl rfl rfl rfl (Nat.le_of_ble_eq_true rfl) dL_law_572 ?_
          intro r572 hr572
          refine g_icmp_eq hX dL_law_575 (fun h575 => ?_) (fun h575 => ?_)
          · refine g_iinc hX dL_law_1147 ic_5 rfl (Nat.le_of_ble_eq_true rfl) rfl ?_
            refine g_goto hX dL_law_1150 ?_
            exact g_wk (lv0 := [some (.ref b), some (.ref (ad Z 0 0)), some (.ref (ad Z 32 0)), some (.int (s18_3 + 5))]) ⟨rfl, rfl, rfl, rfl, trivial⟩ (g_end (fun h => h))
          · refine g_iconst hX dL_law_578 ic_0 ?_
            exact g_lawret hX HL (fun h => h) dL_law_579
        refine g_tsw hX dL_law_32 12 (by decide) (by decide) rfl rfl (fun h32_12 => ?_) (fun h32_12 => ?_)
        · refine g_aload_n hX dL_law_580 rfl rfl ?_
          refine g_aload_n hX dL_law_581 rfl rfl ?_
          refine g_iload_n hX dL_law_582 rfl rfl ?_
          refine g_iconst hX dL_law_583 ic_1 ?_
          refine g_iadd hX dL_law_584 ?_
          refine g_sld hX HL dL_law_585 ?_
          intro x585 hx585
          refine g_callV hX (As := [.int x585]) (fun r => (some (.int r.1))) (fun r => r.2) (fun _ => m18_) (fun _ => l18_) (fun r hr => c_X6_manner  hr) mi_X6_manner ml_L_65 p6_0 e6_0 rfl rfl rfl rfl rfl (Nat.le_of_ble_eq_true rfl) dL_law_586 ?_
          intro r586 hr586
          refine g_aload_n hX dL_law_589 rfl rfl ?_
          refine g_aload_n hX dL_law_590 rfl rfl ?_
          refine g_iload_n hX dL_law_591 rfl rfl ?_
          refine g_iconst hX dL_law_592 ic_1 ?_
          refine g_iadd hX dL_law_593 ?_
          refine g_sld hX HL dL_law_594 ?_
          intro x594 hx594
          refine g_callV hX (As := [.int x594]) (fun r => (some (.int r.1))) (fun _ => r586.2) (fun r => r.2) (fun _ => l18_) (fun r hr => c_X7_manner  hr) mi_X7_manner ml_L_68 p7_0 e7_0 rfl rfl rfl rfl rfl (Nat.le_of_ble_eq_true rfl) dL_law_595 ?_
          intro r595 hr595
          refine g_icmp_eq hX dL_law_598 (fun h598 => ?_) (fun h598 => ?_)
          · refine g_iinc hX dL_law_1147 ic_5 rfl (Nat.le_of_ble_eq_true rfl) rfl ?_
            refine g_goto hX dL_law_1150 ?_
            exact g_wk (lv0 := [some (.ref b), some (.ref (ad Z 0 0)), some (.ref (ad Z 32 0)), some (.int (s18_3 + 5))]) ⟨rfl, rfl, rfl, rfl, trivial⟩ (g_end (fun h => h))
          · refine g_iconst hX dL_law_601 ic_0 ?_
            exact g_lawret hX HL (fun h => h) dL_law_602
        refine g_tsw hX dL_law_32 13 (by decide) (by decide) rfl rfl (fun h32_13 => ?_) (fun h32_13 => ?_)
        · refine g_aload_n hX dL_law_603 rfl rfl ?_
          refine g_aload_n hX dL_law_604 rfl rfl ?_
          refine g_iload_n hX dL_law_605 rfl rfl ?_
          refine g_iconst hX dL_law_606 ic_1 ?_
          refine g_iadd hX dL_law_607 ?_
          refine g_sld hX HL dL_law_608 ?_
          intro x608 hx608
          refine g_aload_n hX dL_law_609 rfl rfl ?_
          refine g_iload_n hX dL_law_610 rfl rfl ?_
          refine g_iconst hX dL_law_611 ic_2 ?_
          refine g_iadd hX dL_law_612 ?_
          refine g_sld hX HL dL_law_613 ?_
          intro x613 hx613
          refine g_aload_n hX dL_law_614 rfl rfl ?_
          refine g_iload_n hX dL_law_615 rfl rfl ?_
          refine g_iconst hX dL_law_616 ic_3 ?_
          refine g_iadd hX dL_law_617 ?_
          refine g_sld hX HL dL_law_618 ?_
          intro x618 hx618
          refine g_aload_n hX dL_law_619 rfl rfl ?_
          refine g_iload_n hX dL_law_620 rfl rfl ?_
          refine g_iconst hX dL_law_621 ic_4 ?_
          refine g_iadd hX dL_law_622 ?_
          refine g_sld hX HL dL_law_623 ?_
          intro x623 hx623
          refine g_callV hX (As := [.int x608, .int x613, .int x618, .int x623]) (fun r => (some (.int r.1))) (fun r => r.2) (fun _ => m18_) (fun _ => l18_) (fun r hr => c_X6_order  hr) mi_X6_order ml_L_69 p6_0 e6_0 rfl rfl rfl rfl rfl (Nat.le_of_ble_eq_true rfl) dL_law_624 ?_
          intro r624 hr624
          refine g_aload_n hX dL_law_627 rfl rfl ?_
          refine g_aload_n hX dL_law_628 rfl rfl ?_
          refine g_iload_n hX dL_law_629 rfl rfl ?_
          refine g_iconst hX dL_law_630 ic_1 ?_
          refine g_iadd hX dL_law_631 ?_
          refine g_sld hX HL dL_law_632 ?_
          intro x632 hx632
          refine g_aload_n hX dL_law_633 rfl rfl ?_
          refine g_iload_n hX dL_law_634 rfl rfl ?_
          refine g_iconst hX dL_law_635 ic_2 ?_
          refine g_iadd hX dL_law_636 ?_
          refine g_sld hX HL dL_law_637 ?_
          intro x637 hx637
          refine g_aload_n hX dL_law_638 rfl rfl ?_
          refine g_iload_n hX dL_law_639 rfl rfl ?_
          refine g_iconst hX dL_law_640 ic_3 ?_
          refine g_iadd hX dL_law_641 ?_
          refine g_sld hX HL dL_law_642 ?_
          intro x642 hx642
          refine g_aload_n hX dL_law_643 rfl rfl ?_
          refine g_iload_n hX dL_law_644 rfl rfl ?_
          refine g_iconst hX dL_law_645 ic_4 ?_
          refine g_iadd hX dL_law_646 ?_
          refine g_sld hX HL dL_law_647 ?_
          intro x647 hx647
          refine g_callV hX (As := [.int x632, .int x637, .int x642, .int x647]) (fun r => (some (.int r.1))) (fun _ => r624.2) (fun r => r.2) (fun _ => l18_) (fun r hr => c_X7_order  hr) mi_X7_order ml_L_72 p7_0 e7_0 rfl rfl rfl rfl rfl (Nat.le_of_ble_eq_true rfl) dL_law_648 ?_
          intro r648 hr648
          refine g_icmp_eq hX dL_law_651 (fun h651 => ?_) (fun h651 => ?_)
          · refine g_iinc hX dL_law_1147 ic_5 rfl (Nat.le_of_ble_eq_true rfl) rfl ?_
            refine g_goto hX dL_law_1150 ?_
            exact g_wk (lv0 := [some (.ref b), some (.ref (ad Z 0 0)), some (.ref (ad Z 32 0)), some (.int (s18_3 + 5))]) ⟨rfl, rfl, rfl, rfl, trivial⟩ (g_end (fun h => h))
          · refine g_iconst hX dL_law_654 ic_0 ?_
            exact g_lawret hX HL (fun h => h) dL_law_655
        refine g_tsw hX dL_law_32 14 (by decide) (by decide) rfl rfl (fun h32_14 => ?_) (fun h32_14 => ?_)
        · refine g_aload_n hX dL_law_656 rfl rfl ?_
          refine g_aload_n hX dL_law_657 rfl rfl ?_
          refine g_iload_n hX dL_law_658 rfl rfl ?_
          refine g_iconst hX dL_law_659 ic_1 ?_
          refine g_iadd hX dL_law_660 ?_
          refine g_sld hX HL dL_law_661 ?_
          intro x661 hx661
          refine g_callV hX (As := [.int x661]) (fun r => (some (.int r.1))) (fun r => r.2) (fun _ => m18_) (fun _ => l18_) (fun r hr => c_X6_seat  hr) mi_X6_seat ml_L_73 p6_0 e6_0 rfl rfl rfl rfl rfl (Nat.le_of_ble_eq_true rfl) dL_law_662 ?_
          intro r662 hr662
          refine g_aload_n hX dL_law_665 rfl rfl ?_
          refine g_aload_n hX dL_law_666 rfl rfl ?_
          refine g_iload_n hX dL_law_667 rfl rfl ?_
          refine g_iconst hX dL_law_668 ic_1 ?_
          refine g_iadd hX dL_law_669 ?_
          refine g_sld hX HL dL_law_670 ?_
          intro x670 hx670
          refine g_callV hX (As := [.int x670]) (fun r => (some (.int r.1))) (fun _ => r662.2) (fun r => r.2) (fun _ => l18_) (fun r hr => c_X7_seat  hr) mi_X7_seat ml_L_76 p7_0 e7_0 rfl rfl rfl rfl rfl (Nat.le_of_ble_eq_true rfl) dL_law_671 ?_
          intro r671 hr671
          refine g_icmp_eq hX dL_law_674 (fun h674 => ?_) (fun h674 => ?_)
          · refine g_iinc hX dL_law_1147 ic_5 rfl (Nat.le_of_ble_eq_true rfl) rfl ?_
            refine g_goto hX dL_law_1150 ?_
            exact g_wk (lv0 := [some (.ref b), some (.ref (ad Z 0 0)), some (.ref (ad Z 32 0)), some (.int (s18_3 + 5))]) ⟨rfl, rfl, rfl, rfl, trivial⟩ (g_end (fun h => h))
          · refine g_iconst hX dL_law_677 ic_0 ?_
            exact g_lawret hX HL (fun h => h) dL_law_678
        refine g_tsw hX dL_law_32 15 (by decide) (by decide) rfl rfl (fun h32_15 => ?_) (fun h32_15 => ?_)
        · refine g_aload_n hX dL_law_679 rfl rfl ?_
          refine g_aload_n hX dL_law_680 rfl rfl ?_
          refine g_iload_n hX dL_law_681 rfl rfl ?_
          refine g_iconst hX dL_law_682 ic_1 ?_
          refine g_iadd hX dL_law_683 ?_
          refine g_sld hX HL dL_law_684 ?_
          intro x684 hx684
          refine g_callV hX (As := [.int x684]) (fun r => (some (.int r.1))) (fun r => r.2) (fun _ => m18_) (fun _ => l18_) (fun r hr => c_X6_counted  hr) mi_X6_counted ml_L_77 p6_0 e6_0 rfl rfl rfl rfl rfl (Nat.le_of_ble_eq_true rfl) dL_law_685 ?_
          intro r685 hr685
          refine g_aload_n hX dL_law_688 rfl rfl ?_
          refine g_aload_n hX dL_law_689 rfl rfl ?_
          refine g_iload_n hX dL_law_690 rfl rfl ?_
          refine g_iconst hX dL_law_691 ic_1 ?_
          refine g_iadd hX dL_law_692 ?_
          refine g_sld hX HL dL_law_693 ?_
          intro x693 hx693
          refine g_callV hX (As := [.int x693]) (fun r => (some (.int r.1))) (fun _ => r685.2) (fun r => r.2) (fun _ => l18_) (fun r hr => c_X7_counted  hr) mi_X7_counted ml_L_80 p7_0 e7_0 rfl rfl rfl rfl rfl (Nat.le_of_ble_eq_true rfl) dL_law_694 ?_
          intro r694 hr694
          refine g_icmp_eq hX dL_law_697 (fun h697 => ?_) (fun h697 => ?_)
          · refine g_iinc hX dL_law_1147 ic_5 rfl (Nat.le_of_ble_eq_true rfl) rfl ?_
            refine g_goto hX dL_law_1150 ?_
            exact g_wk (lv0 := [some (.ref b), some (.ref (ad Z 0 0)), some (.ref (ad Z 32 0)), some (.int (s18_3 + 5))]) ⟨rfl, rfl, rfl, rfl, trivial⟩ (g_end (fun h => h))
          · refine g_iconst hX dL_law_700 ic_0 ?_
            exact g_lawret hX HL (fun h => h) dL_law_701
        refine g_tsw hX dL_law_32 16 (by decide) (by decide) rfl rfl (fun h32_16 => ?_) (fun h32_16 => ?_)
        · refine g_aload_n hX dL_law_702 rfl rfl ?_
          refine g_aload_n hX dL_law_703 rfl rfl ?_
          refine g_iload_n hX dL_law_704 rfl rfl ?_
          refine g_iconst hX dL_law_705 ic_1 ?_
          refine g_iadd hX dL_law_706 ?_
          refine g_sld hX HL dL_law_707 ?_
          intro x707 hx707
          refine g_callV hX (As := [.int x707]) (fun r => (some (.int r.1))) (fun r => r.2) (fun _ => m18_) (fun _ => l18_) (fun r hr => c_X6_handed  hr) mi_X6_handed ml_L_81 p6_0 e6_0 rfl rfl rfl rfl rfl (Nat.le_of_ble_eq_true rfl) dL_law_708 ?_
          intro r708 hr708
          refine g_aload_n hX dL_law_711 rfl rfl ?_
          refine g_aload_n hX dL_law_712 rfl rfl ?_
          refine g_iload_n hX dL_law_713 rfl rfl ?_
          refine g_iconst hX dL_law_714 ic_1 ?_
          refine g_iadd hX dL_law_715 ?_
          refine g_sld hX HL dL_law_716 ?_
          intro x716 hx716
          refine g_callV hX (As := [.int x716]) (fun r => (some (.int r.1))) (fun _ => r708.2) (fun r => r.2) (fun _ => l18_) (fun r hr => c_X7_handed  hr) mi_X7_handed ml_L_84 p7_0 e7_0 rfl rfl rfl rfl rfl (Nat.le_of_ble_eq_true rfl) dL_law_717 ?_
          intro r717 hr717
          refine g_icmp_eq hX dL_law_720 (fun h720 => ?_) (fun h720 => ?_)
          · refine g_iinc hX dL_law_1147 ic_5 rfl (Nat.le_of_ble_eq_true rfl) rfl ?_
            refine g_goto hX dL_law_1150 ?_
            exact g_wk (lv0 := [some (.ref b), some (.ref (ad Z 0 0)), some (.ref (ad Z 32 0)), some (.int (s18_3 + 5))]) ⟨rfl, rfl, rfl, rfl, trivial⟩ (g_end (fun h => h))
          · refine g_iconst hX dL_law_723 ic_0 ?_
            exact g_lawret hX HL (fun h => h) dL_law_724
        refine g_tsw hX dL_law_32 17 (by decide) (by decide) rfl rfl (fun h32_17 => ?_) (fun h32_17 => ?_)
        · refine g_aload_n hX dL_law_725 rfl rfl ?_
          refine g_aload_n hX dL_law_726 rfl rfl ?_
          refine g_iload_n hX dL_law_727 rfl rfl ?_
          refine g_iconst hX dL_law_728 ic_1 ?_
          refine g_iadd hX dL_law_729 ?_
          refine g_sld hX HL dL_law_730 ?_
          intro x730 hx730
          refine g_aload_n hX dL_law_731 rfl rfl ?_
          refine g_iload_n hX dL_law_732 rfl rfl ?_
          refine g_iconst hX dL_law_733 ic_2 ?_
          refine g_iadd hX dL_law_734 ?_
          refine g_sld hX HL dL_law_735 ?_
          intro x735 hx735
          refine g_callV hX (As := [.int x730, .int x735]) (fun r => (some (.int r.1))) (fun r => r.2) (fun _ => m18_) (fun _ => l18_) (fun r hr => c_X6_taken  hr) mi_X6_taken ml_L_85 p6_0 e6_0 rfl rfl rfl rfl rfl (Nat.le_of_ble_eq_true rfl) dL_law_736 ?_
          intro r736 hr736
          refine g_aload_n hX dL_law_739 rfl rfl ?_
          refine g_aload_n hX dL_law_740 rfl rfl ?_
          refine g_iload_n hX dL_law_741 rfl rfl ?_
          refine g_iconst hX dL_law_742 ic_1 ?_
          refine g_iadd hX dL_law_743 ?_
          refine g_sld hX HL dL_law_744 ?_
          intro x744 hx744
          refine g_aload_n hX dL_law_745 rfl rfl ?_
          refine g_iload_n hX dL_law_746 rfl rfl ?_
          refine g_iconst hX dL_law_747 ic_2 ?_
          refine g_iadd hX dL_law_748 ?_
          refine g_sld hX HL dL_law_749 ?_
          intro x749 hx749
          refine g_callV hX (As := [.int x744, .int x749]) (fun r => (some (.int r.1))) (fun _ => r736.2) (fun r => r.2) (fun _ => l18_) (fun r hr => c_X7_taken  hr) mi_X7_taken ml_L_88 p7_0 e7_0 rfl rfl rfl rfl rfl (Nat.le_of_ble_eq_true rfl) dL_law_750 ?_
          intro r750 hr750
          refine g_icmp_eq hX dL_law_753 (fun h753 => ?_) (fun h753 => ?_)
          · refine g_iinc hX dL_law_1147 ic_5 rfl (Nat.le_of_ble_eq_true rfl) rfl ?_
            refine g_goto hX dL_law_1150 ?_
            exact g_wk (lv0 := [some (.ref b), some (.ref (ad Z 0 0)), some (.ref (ad Z 32 0)), some (.int (s18_3 + 5))]) ⟨rfl, rfl, rfl, rfl, trivial⟩ (g_end (fun h => h))
          · refine g_iconst hX dL_law_756 ic_0 ?_
            exact g_lawret hX HL (fun h => h) dL_law_757
        refine g_tsw hX dL_law_32 18 (by decide) (by decide) rfl rfl (fun h32_18 => ?_) (fun h32_18 => ?_)
        · refine g_aload_n hX dL_law_758 rfl rfl ?_
          refine g_aload_n hX dL_law_759 rfl rfl ?_
          refine g_iload_n hX dL_law_760 rfl rfl ?_
          refine g_iconst hX dL_law_761 ic_1 ?_
          refine g_iadd hX dL_law_762 ?_
          refine g_sld hX HL dL_law_763 ?_
          intro x763 hx763
          refine g_aload_n hX dL_law_764 rfl rfl ?_
          refine g_iload_n hX dL_law_765 rfl rfl ?_
          refine g_iconst hX dL_law_766 ic_2 ?_
          refine g_iadd hX dL_law_767 ?_
          refine g_sld hX HL dL_law_768 ?_
          intro x768 hx768
          refine g_callV hX (As := [.int x763, .int x768]) (fun r => (some (.int r.1))) (fun r => r.2) (fun _ => m18_) (fun _ => l18_) (fun r hr => c_X6_ofKind  hr) mi_X6_ofKind ml_L_89 p6_0 e6_0 rfl rfl rfl rfl rfl (Nat.le_of_ble_eq_true rfl) dL_law_769 ?_
          intro r769 hr769
          refine g_aload_n hX dL_law_772 rfl rfl ?_
          refine g_aload_n hX dL_law_773 rfl rfl ?_
          refine g_iload_n hX dL_law_774 rfl rfl ?_
          refine g_iconst hX dL_law_775 ic_1 ?_
          refine g_iadd hX dL_law_776 ?_
          refine g_sld hX HL dL_law_777 ?_
          intro x777 hx777
          refine g_aload_n hX dL_law_778 rfl rfl ?_
          refine g_iload_n hX dL_law_779 rfl rfl ?_
          refine g_iconst hX dL_law_780 ic_2 ?_
          refine g_iadd hX dL_law_781 ?_
          refine g_sld hX HL dL_law_782 ?_
          intro x782 hx782
          refine g_callV hX (As := [.int x777, .int x782]) (fun r => (some (.int r.1))) (fun _ => r769.2) (fun r => r.2) (fun _ => l18_) (fun r hr => c_X7_ofKind  hr) mi_X7_ofKind ml_L_92 p7_0 e7_0 rfl rfl rfl rfl rfl (Nat.le_of_ble_eq_true rfl) dL_law_783 ?_
          intro r783 hr783
          refine g_icmp_eq hX dL_law_786 (fun h786 => ?_) (fun h786 => ?_)
          · refine g_iinc hX dL_law_1147 ic_5 rfl (Nat.le_of_ble_eq_true rfl) rfl ?_
            refine g_goto hX dL_law_1150 ?_
            exact g_wk (lv0 := [some (.ref b), some (.ref (ad Z 0 0)), some (.ref (ad Z 32 0)), some (.int (s18_3 + 5))]) ⟨rfl, rfl, rfl, rfl, trivial⟩ (g_end (fun h => h))
          · refine g_iconst hX dL_law_789 ic_0 ?_
            exact g_lawret hX HL (fun h => h) dL_law_790
        refine g_tsw hX dL_law_32 19 (by decide) (by decide) rfl rfl (fun h32_19 => ?_) (fun h32_19 => ?_)
        · refine g_aload_n hX dL_law_791 rfl rfl ?_
          refine g_aload_n hX dL_law_792 rfl rfl ?_
          refine g_iload_n hX dL_law_793 rfl rfl ?_
          refine g_iconst hX dL_law_794 ic_1 ?_
          refine g_iadd hX dL_law_795 ?_
          refine g_sld hX HL dL_law_796 ?_
          intro x796 hx796
          refine g_callV hX (As := [.int x796]) (fun r => (some (.long r.1))) (fun r => r.2) (fun _ => m18_) (fun _ => l18_) (fun r hr => c_X6_ways  hr) mi_X6_ways ml_L_93 p6_0 e6_0 rfl rfl rfl rfl rfl (Nat.le_of_ble_eq_true rfl) dL_law_797 ?_
          intro r797 hr797
          refine g_aload_n hX dL_law_800 rfl rfl ?_
          refine g_aload_n hX dL_law_801 rfl rfl ?_
          refine g_iload_n hX dL_law_802 rfl rfl ?_
          refine g_iconst hX dL_law_803 ic_1 ?_
          refine g_iadd hX dL_law_804 ?_
          refine g_sld hX HL dL_law_805 ?_
          intro x805 hx805
          refine g_callV hX (As := [.int x805]) (fun r => (some (.long r.1))) (fun _ => r797.2) (fun r => r.2.1) (fun r => r.2.2) (fun r hr => c_X7_ways  hr) mi_X7_ways ml_L_97 p7_0 e7_0 rfl rfl rfl rfl rfl (Nat.le_of_ble_eq_true rfl) dL_law_806 ?_
          intro r806 hr806
          refine g_lcmp hX dL_law_809 ?_
          refine g_if_eq hX dL_law_810 (fun h810 => ?_) (fun h810 => ?_)
          · refine g_iinc hX dL_law_1147 ic_5 rfl (Nat.le_of_ble_eq_true rfl) rfl ?_
            refine g_goto hX dL_law_1150 ?_
            exact g_wk (lv0 := [some (.ref b), some (.ref (ad Z 0 0)), some (.ref (ad Z 32 0)), some (.int (s18_3 + 5))]) ⟨rfl, rfl, rfl, rfl, trivial⟩ (g_end (fun h => h))
          · refine g_iconst hX dL_law_813 ic_0 ?_
            exact g_lawret hX HL (fun h => h) dL_law_814
        refine g_tsw hX dL_law_32 20 (by decide) (by decide) rfl rfl (fun h32_20 => ?_) (fun h32_20 => ?_)
        · refine g_aload_n hX dL_law_815 rfl rfl ?_
          refine g_aload_n hX dL_law_816 rfl rfl ?_
          refine g_iload_n hX dL_law_817 rfl rfl ?_
          refine g_iconst hX dL_law_818 ic_1 ?_
          refine g_iadd hX dL_law_819 ?_
          refine g_sld hX HL dL_law_820 ?_
          intro x820 hx820
          refine g_aload_n hX dL_law_821 rfl rfl ?_
          refine g_iload_n hX dL_law_822 rfl rfl ?_
          refine g_iconst hX dL_law_823 ic_2 ?_
          refine g_iadd hX dL_law_824 ?_
          refine g_sld hX HL dL_law_825 ?_
          intro x825 hx825
          refine g_callV hX (As := [.int x820, .int x825]) (fun r => (some (.int r.1))) (fun r => r.2) (fun _ => m18_) (fun _ => l18_) (fun r hr => c_X6_by  hr) mi_X6_by ml_L_98 p6_0 e6_0 rfl rfl rfl rfl rfl (Nat.le_of_ble_eq_true rfl) dL_law_826 ?_
          intro r826 hr826
          refine g_aload_n hX dL_law_829 rfl rfl ?_
          refine g_aload_n hX dL_law_830 rfl rfl ?_
          refine g_iload_n hX dL_law_831 rfl rfl ?_
          refine g_iconst hX dL_law_832 ic_1 ?_
          refine g_iadd hX dL_law_833 ?_
          refine g_sld hX HL dL_law_834 ?_
          intro x834 hx834
          refine g_aload_n hX dL_law_835 rfl rfl ?_
          refine g_iload_n hX dL_law_836 rfl rfl ?_
          refine g_iconst hX dL_law_837 ic_2 ?_
          refine g_iadd hX dL_law_838 ?_
          refine g_sld hX HL dL_law_839 ?_
          intro x839 hx839
          refine g_callV hX (As := [.int x834, .int x839]) (fun r => (some (.int r.1))) (fun _ => r826.2) (fun r => r.2) (fun _ => l18_) (fun r hr => c_X7_by  hr) mi_X7_by ml_L_101 p7_0 e7_0 rfl rfl rfl rfl rfl (Nat.le_of_ble_eq_true rfl) dL_law_840 ?_
          intro r840 hr840
          refine g_icmp_eq hX dL_law_843 (fun h843 => ?_) (fun h843 => ?_)
          · refine g_iinc hX dL_law_1147 ic_5 rfl (Nat.le_of_ble_eq_true rfl) rfl ?_
            refine g_goto hX dL_law_1150 ?_
            exact g_wk (lv0 := [some (.ref b), some (.ref (ad Z 0 0)), some (.ref (ad Z 32 0)), some (.int (s18_3 + 5))]) ⟨rfl, rfl, rfl, rfl, trivial⟩ (g_end (fun h => h))
          · refine g_iconst hX dL_law_846 ic_0 ?_
            exact g_lawret hX HL (fun h => h) dL_law_847
        refine g_tsw hX dL_law_32 21 (by decide) (by decide) rfl rfl (fun h32_21 => ?_) (fun h32_21 => ?_)
        · refine g_aload_n hX dL_law_848 rfl rfl ?_
          refine g_aload_n hX dL_law_849 rfl rfl ?_
          refine g_iload_n hX dL_law_850 rfl rfl ?_
          refine g_iconst hX dL_law_851 ic_1 ?_
          refine g_iadd hX dL_law_852 ?_
          refine g_sld hX HL dL_law_853 ?_
          intro x853 hx853
          refine g_callV hX (As := [.int x853]) (fun r => (some (.int r.1))) (fun r => r.2) (fun _ => m18_) (fun _ => l18_) (fun r hr => c_X6_sure  hr) mi_X6_sure ml_L_102 p6_0 e6_0 rfl rfl rfl rfl rfl (Nat.le_of_ble_eq_true rfl) dL_law_854 ?_
          intro r854 hr854
          refine g_aload_n hX dL_law_857 rfl rfl ?_
          refine g_aload_n hX dL_law_858 rfl rfl ?_
          refine g_iload_n hX dL_law_859 rfl rfl ?_
          refine g_iconst hX dL_law_860 ic_1 ?_
          refine g_iadd hX dL_law_861 ?_
          refine g_sld hX HL dL_law_862 ?_
          intro x862 hx862
          refine g_callV hX (As := [.int x862]) (fun r => (some (.int r.1))) (fun _ => r854.2) (fun r => r.2) (fun _ => l18_) (fun r hr => c_X7_sure  hr) mi_X7_sure ml_L_105 p7_0 e7_0 rfl rfl rfl rfl rfl (Nat.le_of_ble_eq_true rfl) dL_law_863 ?_
          intro r863 hr863
          refine g_icmp_eq hX dL_law_866 (fun h866 => ?_) (fun h866 => ?_)
          · refine g_iinc hX dL_law_1147 ic_5 rfl (Nat.le_of_ble_eq_true rfl) rfl ?_
            refine g_goto hX dL_law_1150 ?_
            exact g_wk (lv0 := [some (.ref b), some (.ref (ad Z 0 0)), some (.ref (ad Z 32 0)), some (.int (s18_3 + 5))]) ⟨rfl, rfl, rfl, rfl, trivial⟩ (g_end (fun h => h))
          · refine g_iconst hX dL_law_869 ic_0 ?_
            exact g_lawret hX HL (fun h => h) dL_law_870
        refine g_tsw hX dL_law_32 22 (by decide) (by decide) rfl rfl (fun h32_22 => ?_) (fun h32_22 => ?_)
        · refine g_aload_n hX dL_law_871 rfl rfl ?_
          refine g_aload_n hX dL_law_872 rfl rfl ?_
          refine g_iload_n hX dL_law_873 rfl rfl ?_
          refine g_iconst hX dL_law_874 ic_1 ?_
          refine g_iadd hX dL_law_875 ?_
          refine g_sld hX HL dL_law_876 ?_
          intro x876 hx876
          refine g_callV hX (As := [.int x876]) (fun r => (some (.int r.1))) (fun r => r.2) (fun _ => m18_) (fun _ => l18_) (fun r hr => c_X6_threshold  hr) mi_X6_threshold ml_L_106 p6_0 e6_0 rfl rfl rfl rfl rfl (Nat.le_of_ble_eq_true rfl) dL_law_877 ?_
          intro r877 hr877
          refine g_aload_n hX dL_law_880 rfl rfl ?_
          refine g_aload_n hX dL_law_881 rfl rfl ?_
          refine g_iload_n hX dL_law_882 rfl rfl ?_
          refine g_iconst hX dL_law_883 ic_1 ?_
          refine g_iadd hX dL_law_884 ?_
          refine g_sld hX HL dL_law_885 ?_
          intro x885 hx885
          refine g_callV hX (As := [.int x885]) (fun r => (some (.int r.1))) (fun _ => r877.2) (fun r => r.2) (fun _ => l18_) (fun r hr => c_X7_threshold  hr) mi_X7_threshold ml_L_109 p7_0 e7_0 rfl rfl rfl rfl rfl (Nat.le_of_ble_eq_true rfl) dL_law_886 ?_
          intro r886 hr886
          refine g_icmp_eq hX dL_law_889 (fun h889 => ?_) (fun h889 => ?_)
          · refine g_iinc hX dL_law_1147 ic_5 rfl (Nat.le_of_ble_eq_true rfl) rfl ?_
            refine g_goto hX dL_law_1150 ?_
            exact g_wk (lv0 := [some (.ref b), some (.ref (ad Z 0 0)), some (.ref (ad Z 32 0)), some (.int (s18_3 + 5))]) ⟨rfl, rfl, rfl, rfl, trivial⟩ (g_end (fun h => h))
          · refine g_iconst hX dL_law_892 ic_0 ?_
            exact g_lawret hX HL (fun h => h) dL_law_893
        refine g_tsw hX dL_law_32 23 (by decide) (by decide) rfl rfl (fun h32_23 => ?_) (fun h32_23 => ?_)
        · refine g_aload_n hX dL_law_894 rfl rfl ?_
          refine g_aload_n hX dL_law_895 rfl rfl ?_
          refine g_iload_n hX dL_law_896 rfl rfl ?_
          refine g_iconst hX dL_law_897 ic_1 ?_
          refine g_iadd hX dL_law_898 ?_
          refine g_sld hX HL dL_law_899 ?_
          intro x899 hx899
          refine g_callV hX (As := [.int x899]) (fun r => (some (.int r.1))) (fun r => r.2) (fun _ => m18_) (fun _ => l18_) (fun r hr => c_X6_claim  hr) mi_X6_claim ml_L_110 p6_0 e6_0 rfl rfl rfl rfl rfl (Nat.le_of_ble_eq_true rfl) dL_law_900 ?_
          intro r900 hr900
          refine g_aload_n hX dL_law_903 rfl rfl ?_
          refine g_aload_n hX dL_law_904 rfl rfl ?_
          refine g_iload_n hX dL_law_905 rfl rfl ?_
          refine g_iconst hX dL_law_906 ic_1 ?_
          refine g_iadd hX dL_law_907 ?_
          refine g_sld hX HL dL_law_908 ?_
          intro x908 hx908
          refine g_callV hX (As := [.int x908]) (fun r => (some (.int r.1))) (fun _ => r900.2) (fun r => r.2) (fun _ => l18_) (fun r hr => c_X7_claim  hr) mi_X7_claim ml_L_113 p7_0 e7_0 rfl rfl rfl rfl rfl (Nat.le_of_ble_eq_true rfl) dL_law_909 ?_
          intro r909 hr909
          refine g_icmp_eq hX dL_law_912 (fun h912 => ?_) (fun h912 => ?_)
          · refine g_iinc hX dL_law_1147 ic_5 rfl (Nat.le_of_ble_eq_true rfl) rfl ?_
            refine g_goto hX dL_law_1150 ?_
            exact g_wk (lv0 := [some (.ref b), some (.ref (ad Z 0 0)), some (.ref (ad Z 32 0)), some (.int (s18_3 + 5))]) ⟨rfl, rfl, rfl, rfl, trivial⟩ (g_end (fun h => h))
          · refine g_iconst hX dL_law_915 ic_0 ?_
            exact g_lawret hX HL (fun h => h) dL_law_916
        refine g_tsw hX dL_law_32 24 (by decide) (by decide) rfl rfl (fun h32_24 => ?_) (fun h32_24 => ?_)
        · refine g_aload_n hX dL_law_917 rfl rfl ?_
          refine g_aload_n hX dL_law_918 rfl rfl ?_
          refine g_iload_n hX dL_law_919 rfl rfl ?_
          refine g_iconst hX dL_law_920 ic_1 ?_
          refine g_iadd hX dL_law_921 ?_
          refine g_sld hX HL dL_law_922 ?_
          intro x922 hx922
          refine g_callV hX (As := [.int x922]) (fun r => (some (.int r.1))) (fun r => r.2) (fun _ => m18_) (fun _ => l18_) (fun r hr => c_X6_successor  hr) mi_X6_successor ml_L_114 p6_0 e6_0 rfl rfl rfl rfl rfl (Nat.le_of_ble_eq_true rfl) dL_law_923 ?_
          intro r923 hr923
          refine g_aload_n hX dL_law_926 rfl rfl ?_
          refine g_aload_n hX dL_law_927 rfl rfl ?_
          refine g_iload_n hX dL_law_928 rfl rfl ?_
          refine g_iconst hX dL_law_929 ic_1 ?_
          refine g_iadd hX dL_law_930 ?_
          refine g_sld hX HL dL_law_931 ?_
          intro x931 hx931
          refine g_callV hX (As := [.int x931]) (fun r => (some (.int r.1))) (fun _ => r923.2) (fun r => r.2) (fun _ => l18_) (fun r hr => c_X7_successor  hr) mi_X7_successor ml_L_117 p7_0 e7_0 rfl rfl rfl rfl rfl (Nat.le_of_ble_eq_true rfl) dL_law_932 ?_
          intro r932 hr932
          refine g_icmp_eq hX dL_law_935 (fun h935 => ?_) (fun h935 => ?_)
          · refine g_iinc hX dL_law_1147 ic_5 rfl (Nat.le_of_ble_eq_true rfl) rfl ?_
            refine g_goto hX dL_law_1150 ?_
            exact g_wk (lv0 := [some (.ref b), some (.ref (ad Z 0 0)), some (.ref (ad Z 32 0)), some (.int (s18_3 + 5))]) ⟨rfl, rfl, rfl, rfl, trivial⟩ (g_end (fun h => h))
          · refine g_iconst hX dL_law_938 ic_0 ?_
            exact g_lawret hX HL (fun h => h) dL_law_939
        refine g_tsw hX dL_law_32 25 (by decide) (by decide) rfl rfl (fun h32_25 => ?_) (fun h32_25 => ?_)
        · refine g_aload_n hX dL_law_940 rfl rfl ?_
          refine g_aload_n hX dL_law_941 rfl rfl ?_
          refine g_iload_n hX dL_law_942 rfl rfl ?_
          refine g_iconst hX dL_law_943 ic_1 ?_
          refine g_iadd hX dL_law_944 ?_
          refine g_sld hX HL dL_law_945 ?_
          intro x945 hx945
          refine g_callV hX (As := [.int x945]) (fun r => (some (.int r.1))) (fun r => r.2) (fun _ => m18_) (fun _ => l18_) (fun r hr => c_X6_passed  hr) mi_X6_passed ml_L_118 p6_0 e6_0 rfl rfl rfl rfl rfl (Nat.le_of_ble_eq_true rfl) dL_law_946 ?_
          intro r946 hr946
          refine g_aload_n hX dL_law_949 rfl rfl ?_
          refine g_aload_n hX dL_law_950 rfl rfl ?_
          refine g_iload_n hX dL_law_951 rfl rfl ?_
          refine g_iconst hX dL_law_952 ic_1 ?_
          refine g_iadd hX dL_law_953 ?_
          refine g_sld hX HL dL_law_954 ?_
          intro x954 hx954
          refine g_callV hX (As := [.int x954]) (fun r => (some (.int r.1))) (fun _ => r946.2) (fun r => r.2) (fun _ => l18_) (fun r hr => c_X7_passed  hr) mi_X7_passed ml_L_121 p7_0 e7_0 rfl rfl rfl rfl rfl (Nat.le_of_ble_eq_true rfl) dL_law_955 ?_
          intro r955 hr955
          refine g_icmp_eq hX dL_law_958 (fun h958 => ?_) (fun h958 => ?_)
          · refine g_iinc hX dL_law_1147 ic_5 rfl (Nat.le_of_ble_eq_true rfl) rfl ?_
            refine g_goto hX dL_law_1150 ?_
            exact g_wk (lv0 := [some (.ref b), some (.ref (ad Z 0 0)), some (.ref (ad Z 32 0)), some (.int (s18_3 + 5))]) ⟨rfl, rfl, rfl, rfl, trivial⟩ (g_end (fun h => h))
          · refine g_iconst hX dL_law_961 ic_0 ?_
            exact g_lawret hX HL (fun h => h) dL_law_962
        refine g_tsw hX dL_law_32 26 (by decide) (by decide) rfl rfl (fun h32_26 => ?_) (fun h32_26 => ?_)
        · refine g_aload_n hX dL_law_963 rfl rfl ?_
          refine g_aload_n hX dL_law_964 rfl rfl ?_
          refine g_iload_n hX dL_law_965 rfl rfl ?_
          refine g_iconst hX dL_law_966 ic_1 ?_
          refine g_iadd hX dL_law_967 ?_
          refine g_sld hX HL dL_law_968 ?_
          intro x968 hx968
          refine g_callV hX (As := [.int x968]) (fun r => (some (.int r.1))) (fun r => r.2) (fun _ => m18_) (fun _ => l18_) (fun r hr => c_X6_nearest  hr) mi_X6_nearest ml_L_122 p6_0 e6_0 rfl rfl rfl rfl rfl (Nat.le_of_ble_eq_true rfl) dL_law_969 ?_
          intro r969 hr969
          refine g_aload_n hX dL_law_972 rfl rfl ?_
          refine g_aload_n hX dL_law_973 rfl rfl ?_
          refine g_iload_n hX dL_law_974 rfl rfl ?_
          refine g_iconst hX dL_law_975 ic_1 ?_
          refine g_iadd hX dL_law_976 ?_
          refine g_sld hX HL dL_law_977 ?_
          intro x977 hx977
          refine g_callV hX (As := [.int x977]) (fun r => (some (.int r.1))) (fun _ => r969.2) (fun r => r.2) (fun _ => l18_) (fun r hr => c_X7_nearest  hr) mi_X7_nearest ml_L_125 p7_0 e7_0 rfl rfl rfl rfl rfl (Nat.le_of_ble_eq_true rfl) dL_law_978 ?_
          intro r978 hr978
          refine g_icmp_eq hX dL_law_981 (fun h981 => ?_) (fun h981 => ?_)
          · refine g_iinc hX dL_law_1147 ic_5 rfl (Nat.le_of_ble_eq_true rfl) rfl ?_
            refine g_goto hX dL_law_1150 ?_
            exact g_wk (lv0 := [some (.ref b), some (.ref (ad Z 0 0)), some (.ref (ad Z 32 0)), some (.int (s18_3 + 5))]) ⟨rfl, rfl, rfl, rfl, trivial⟩ (g_end (fun h => h))
          · refine g_iconst hX dL_law_984 ic_0 ?_
            exact g_lawret hX HL (fun h => h) dL_law_985
        refine g_tsw hX dL_law_32 27 (by decide) (by decide) rfl rfl (fun h32_27 => ?_) (fun h32_27 => ?_)
        · refine g_aload_n hX dL_law_986 rfl rfl ?_
          refine g_callV hX (As := []) (fun r => (some (.int r.1))) (fun r => r.2) (fun _ => m18_) (fun _ => l18_) (fun r hr => c_X6_envy  hr) mi_X6_envy ml_L_126 p6_0 e6_0 rfl rfl rfl rfl rfl (Nat.le_of_ble_eq_true rfl) dL_law_987 ?_
          intro r987 hr987
          refine g_aload_n hX dL_law_990 rfl rfl ?_
          refine g_callV hX (As := []) (fun r => (some (.int r.1))) (fun _ => r987.2) (fun r => r.2) (fun _ => l18_) (fun r hr => c_X7_envy  hr) mi_X7_envy ml_L_130 p7_0 e7_0 rfl rfl rfl rfl rfl (Nat.le_of_ble_eq_true rfl) dL_law_991 ?_
          intro r991 hr991
          refine g_icmp_eq hX dL_law_994 (fun h994 => ?_) (fun h994 => ?_)
          · refine g_iinc hX dL_law_1147 ic_5 rfl (Nat.le_of_ble_eq_true rfl) rfl ?_
            refine g_goto hX dL_law_1150 ?_
            exact g_wk (lv0 := [some (.ref b), some (.ref (ad Z 0 0)), some (.ref (ad Z 32 0)), some (.int (s18_3 + 5))]) ⟨rfl, rfl, rfl, rfl, trivial⟩ (g_end (fun h => h))
          · refine g_iconst hX dL_law_997 ic_0 ?_
            exact g_lawret hX HL (fun h => h) dL_law_998
        refine g_tsw hX dL_law_32 28 (by decide) (by decide) rfl rfl (fun h32_28 => ?_) (fun h32_28 => ?_)
        · refine g_aload_n hX dL_law_999 rfl rfl ?_
          refine g_callV hX (As := []) (fun r => (some (.int r.1))) (fun r => r.2) (fun _ => m18_) (fun _ => l18_) (fun r hr => c_X6_round  hr) mi_X6_round ml_L_131 p6_0 e6_0 rfl rfl rfl rfl rfl (Nat.le_of_ble_eq_true rfl) dL_law_1000 ?_
          intro r1000 hr1000
          refine g_aload_n hX dL_law_1003 rfl rfl ?_
          refine g_callV hX (As := []) (fun r => (some (.int r.1))) (fun _ => r1000.2) (fun r => r.2) (fun _ => l18_) (fun r hr => c_X7_round  hr) mi_X7_round ml_L_134 p7_0 e7_0 rfl rfl rfl rfl rfl (Nat.le_of_ble_eq_true rfl) dL_law_1004 ?_
          intro r1004 hr1004
          refine g_icmp_eq hX dL_law_1007 (fun h1007 => ?_) (fun h1007 => ?_)
          · refine g_iinc hX dL_law_1147 ic_5 rfl (Nat.le_of_ble_eq_true rfl) rfl ?_
            refine g_goto hX dL_law_1150 ?_
            exact g_wk (lv0 := [some (.ref b), some (.ref (ad Z 0 0)), some (.ref (ad Z 32 0)), some (.int (s18_3 + 5))]) ⟨rfl, rfl, rfl, rfl, trivial⟩ (g_end (fun h => h))
          · refine g_iconst hX dL_law_1010 ic_0 ?_
            exact g_lawret hX HL (fun h => h) dL_law_1011
        refine g_tsw hX dL_law_32 29 (by decide) (by decide) rfl rfl (fun h32_29 => ?_) (fun h32_29 => ?_)
        · refine g_aload_n hX dL_law_1012 rfl rfl ?_
          refine g_aload_n hX dL_law_1013 rfl rfl ?_
          refine g_iload_n hX dL_law_1014 rfl rfl ?_
          refine g_iconst hX dL_law_1015 ic_1 ?_
          refine g_iadd hX dL_law_1016 ?_
          refine g_sld hX HL dL_law_1017 ?_
          intro x1017 hx1017
          refine g_aload_n hX dL_law_1018 rfl rfl ?_
          refine g_iload_n hX dL_law_1019 rfl rfl ?_
          refine g_iconst hX dL_law_1020 ic_2 ?_
          refine g_iadd hX dL_law_1021 ?_
          refine g_sld hX HL dL_law_1022 ?_
          intro x1022 hx1022
          refine g_callV hX (As := [.int x1017, .int x1022]) (fun r => (some (.int r.1))) (fun r => r.2) (fun _ => m18_) (fun _ => l18_) (fun r hr => c_X6_answer  hr) mi_X6_answer ml_L_135 p6_0 e6_0 rfl rfl rfl rfl rfl (Nat.le_of_ble_eq_true rfl) dL_law_1023 ?_
          intro r1023 hr1023
          refine g_aload_n hX dL_law_1026 rfl rfl ?_
          refine g_aload_n hX dL_law_1027 rfl rfl ?_
          refine g_iload_n hX dL_law_1028 rfl rfl ?_
          refine g_iconst hX dL_law_1029 ic_1 ?_
          refine g_iadd hX dL_law_1030 ?_
          refine g_sld hX HL dL_law_1031 ?_
          intro x1031 hx1031
          refine g_aload_n hX dL_law_1032 rfl rfl ?_
          refine g_iload_n hX dL_law_1033 rfl rfl ?_
          refine g_iconst hX dL_law_1034 ic_2 ?_
          refine g_iadd hX dL_law_1035 ?_
          refine g_sld hX HL dL_law_1036 ?_
          intro x1036 hx1036
          refine g_callV hX (As := [.int x1031, .int x1036]) (fun r => (some (.int r.1))) (fun _ => r1023.2) (fun r => r.2) (fun _ => l18_) (fun r hr => c_X7_answer  hr) mi_X7_answer ml_L_138 p7_0 e7_0 rfl rfl rfl rfl rfl (Nat.le_of_ble_eq_true rfl) dL_law_1037 ?_
          intro r1037 hr1037
          refine g_icmp_eq hX dL_law_1040 (fun h1040 => ?_) (fun h1040 => ?_)
          · refine g_iinc hX dL_law_1147 ic_5 rfl (Nat.le_of_ble_eq_true rfl) rfl ?_
            refine g_goto hX dL_law_1150 ?_
            exact g_wk (lv0 := [some (.ref b), some (.ref (ad Z 0 0)), some (.ref (ad Z 32 0)), some (.int (s18_3 + 5))]) ⟨rfl, rfl, rfl, rfl, trivial⟩ (g_end (fun h => h))
          · refine g_iconst hX dL_law_1043 ic_0 ?_
            exact g_lawret hX HL (fun h => h) dL_law_1044
        refine g_tsw hX dL_law_32 30 (by decide) (by decide) rfl rfl (fun h32_30 => ?_) (fun h32_30 => ?_)
        · refine g_aload_n hX dL_law_1045 rfl rfl ?_
          refine g_aload_n hX dL_law_1046 rfl rfl ?_
          refine g_iload_n hX dL_law_1047 rfl rfl ?_
          refine g_iconst hX dL_law_1048 ic_1 ?_
          refine g_iadd hX dL_law_1049 ?_
          refine g_sld hX HL dL_law_1050 ?_
          intro x1050 hx1050
          refine g_callV hX (As := [.int x1050]) (fun r => (some (.int r.1))) (fun r => r.2) (fun _ => m18_) (fun _ => l18_) (fun r hr => c_X6_again  hr) mi_X6_again ml_L_139 p6_0 e6_0 rfl rfl rfl rfl rfl (Nat.le_of_ble_eq_true rfl) dL_law_1051 ?_
          intro r1051 hr1051
          refine g_aload_n hX dL_law_1054 rfl rfl ?_
          refine g_aload_n hX dL_law_1055 rfl rfl ?_
          refine g_iload_n hX dL_law_1056 rfl rfl ?_
          refine g_iconst hX dL_law_1057 ic_1 ?_
          refine g_iadd hX dL_law_1058 ?_
          refine g_sld hX HL dL_law_1059 ?_
          intro x1059 hx1059
          refine g_callV hX (As := [.int x1059]) (fun r => (some (.int r.1))) (fun _ => r1051.2) (fun r => r.2) (fun _ => l18_) (fun r hr => c_X7_again  hr) mi_X7_again ml_L_142 p7_0 e7_0 rfl rfl rfl rfl rfl (Nat.le_of_ble_eq_true rfl) dL_law_1060 ?_
          intro r1060 hr1060
          refine g_icmp_eq hX dL_law_1063 (fun h1063 => ?_) (fun h1063 => ?_)
          · refine g_iinc hX dL_law_1147 ic_5 rfl (Nat.le_of_ble_eq_true rfl) rfl ?_
            refine g_goto hX dL_law_1150 ?_
            exact g_wk (lv0 := [some (.ref b), some (.ref (ad Z 0 0)), some (.ref (ad Z 32 0)), some (.int (s18_3 + 5))]) ⟨rfl, rfl, rfl, rfl, trivial⟩ (g_end (fun h => h))
          · refine g_iconst hX dL_law_1066 ic_0 ?_
            exact g_lawret hX HL (fun h => h) dL_law_1067
        refine g_tsw hX dL_law_32 31 (by decide) (by decide) rfl rfl (fun h32_31 => ?_) (fun h32_31 => ?_)
        · refine g_aload_n hX dL_law_1068 rfl rfl ?_
          refine g_aload_n hX dL_law_1069 rfl rfl ?_
          refine g_iload_n hX dL_law_1070 rfl rfl ?_
          refine g_iconst hX dL_law_1071 ic_1 ?_
          refine g_iadd hX dL_law_1072 ?_
          refine g_sld hX HL dL_law_1073 ?_
          intro x1073 hx1073
          refine g_aload_n hX dL_law_1074 rfl rfl ?_
          refine g_iload_n hX dL_law_1075 rfl rfl ?_
          refine g_iconst hX dL_law_1076 ic_2 ?_
          refine g_iadd hX dL_law_1077 ?_
          refine g_sld hX HL dL_law_1078 ?_
          intro x1078 hx1078
          refine g_callV hX (As := [.int x1073, .int x1078]) (fun r => (some (.int r))) (fun _ => c18_) (fun _ => m18_) (fun _ => l18_) (fun r hr => c_X6_note  hr) mi_X6_note ml_L_143 p6_0 e6_0 rfl rfl rfl rfl rfl (Nat.le_of_ble_eq_true rfl) dL_law_1079 ?_
          intro x1079 hx1079
          refine g_aload_n hX dL_law_1082 rfl rfl ?_
          refine g_aload_n hX dL_law_1083 rfl rfl ?_
          refine g_iload_n hX dL_law_1084 rfl rfl ?_
          refine g_iconst hX dL_law_1085 ic_1 ?_
          refine g_iadd hX dL_law_1086 ?_
          refine g_sld hX HL dL_law_1087 ?_
          intro x1087 hx1087
          refine g_aload_n hX dL_law_1088 rfl rfl ?_
          refine g_iload_n hX dL_law_1089 rfl rfl ?_
          refine g_iconst hX dL_law_1090 ic_2 ?_
          refine g_iadd hX dL_law_1091 ?_
          refine g_sld hX HL dL_law_1092 ?_
          intro x1092 hx1092
          refine g_callV hX (As := [.int x1087, .int x1092]) (fun r => (some (.int r))) (fun _ => c18_) (fun _ => m18_) (fun _ => l18_) (fun r hr => c_X7_note  hr) mi_X7_note ml_L_146 p7_0 e7_0 rfl rfl rfl rfl rfl (Nat.le_of_ble_eq_true rfl) dL_law_1093 ?_
          intro x1093 hx1093
          refine g_icmp_eq hX dL_law_1096 (fun h1096 => ?_) (fun h1096 => ?_)
          · refine g_iinc hX dL_law_1147 ic_5 rfl (Nat.le_of_ble_eq_true rfl) rfl ?_
            refine g_goto hX dL_law_1150 ?_
            exact g_wk (lv0 := [some (.ref b), some (.ref (ad Z 0 0)), some (.ref (ad Z 32 0)), some (.int (s18_3 + 5))]) ⟨rfl, rfl, rfl, rfl, trivial⟩ (g_end (fun h => h))
          · refine g_iconst hX dL_law_1099 ic_0 ?_
            exact g_lawret hX HL (fun h => h) dL_law_1100
        refine g_tsw hX dL_law_32 32 (by decide) (by decide) rfl rfl (fun h32_32 => ?_) (fun h32_32 => ?_)
        · refine g_aload_n hX dL_law_1101 rfl rfl ?_
          refine g_aload_n hX dL_law_1102 rfl rfl ?_
          refine g_iload_n hX dL_law_1103 rfl rfl ?_
          refine g_iconst hX dL_law_1104 ic_1 ?_
          refine g_iadd hX dL_law_1105 ?_
          refine g_sld hX HL dL_law_1106 ?_
          intro x1106 hx1106
          refine g_callV hX (As := [.int x1106]) (fun r => (some (.int r.1))) (fun r => r.2) (fun _ => m18_) (fun _ => l18_) (fun r hr => c_X6_back  hr) mi_X6_back ml_L_147 p6_0 e6_0 rfl rfl rfl rfl rfl (Nat.le_of_ble_eq_true rfl) dL_law_1107 ?_
          intro r1107 hr1107
          refine g_aload_n hX dL_law_1110 rfl rfl ?_
          refine g_aload_n hX dL_law_1111 rfl rfl ?_
          refine g_iload_n hX dL_law_1112 rfl rfl ?_
          refine g_iconst hX dL_law_1113 ic_1 ?_
          refine g_iadd hX dL_law_1114 ?_
          refine g_sld hX HL dL_law_1115 ?_
          intro x1115 hx1115
          refine g_callV hX (As := [.int x1115]) (fun r => (some (.int r.1))) (fun _ => r1107.2) (fun r => r.2) (fun _ => l18_) (fun r hr => c_X7_back  hr) mi_X7_back ml_L_150 p7_0 e7_0 rfl rfl rfl rfl rfl (Nat.le_of_ble_eq_true rfl) dL_law_1116 ?_
          intro r1116 hr1116
          refine g_icmp_eq hX dL_law_1119 (fun h1119 => ?_) (fun h1119 => ?_)
          · refine g_iinc hX dL_law_1147 ic_5 rfl (Nat.le_of_ble_eq_true rfl) rfl ?_
            refine g_goto hX dL_law_1150 ?_
            exact g_wk (lv0 := [some (.ref b), some (.ref (ad Z 0 0)), some (.ref (ad Z 32 0)), some (.int (s18_3 + 5))]) ⟨rfl, rfl, rfl, rfl, trivial⟩ (g_end (fun h => h))
          · refine g_iconst hX dL_law_1122 ic_0 ?_
            exact g_lawret hX HL (fun h => h) dL_law_1123
        refine g_tsw hX dL_law_32 33 (by decide) (by decide) rfl rfl (fun h32_33 => ?_) (fun h32_33 => ?_)
        · refine g_aload_n hX dL_law_1124 rfl rfl ?_
          refine g_aload_n hX dL_law_1125 rfl rfl ?_
          refine g_iload_n hX dL_law_1126 rfl rfl ?_
          refine g_iconst hX dL_law_1127 ic_1 ?_
          refine g_iadd hX dL_law_1128 ?_
          refine g_sld hX HL dL_law_1129 ?_
          intro x1129 hx1129
          refine g_callV hX (As := [.int x1129]) (fun r => (some (.int r.1))) (fun r => r.2) (fun _ => m18_) (fun _ => l18_) (fun r hr => c_X6_many  hr) mi_X6_many ml_L_151 p6_0 e6_0 rfl rfl rfl rfl rfl (Nat.le_of_ble_eq_true rfl) dL_law_1130 ?_
          intro r1130 hr1130
          refine g_aload_n hX dL_law_1133 rfl rfl ?_
          refine g_aload_n hX dL_law_1134 rfl rfl ?_
          refine g_iload_n hX dL_law_1135 rfl rfl ?_
          refine g_iconst hX dL_law_1136 ic_1 ?_
          refine g_iadd hX dL_law_1137 ?_
          refine g_sld hX HL dL_law_1138 ?_
          intro x1138 hx1138
          refine g_callV hX (As := [.int x1138]) (fun r => (some (.int r.1))) (fun _ => r1130.2) (fun r => r.2) (fun _ => l18_) (fun r hr => c_X7_many  hr) mi_X7_many ml_L_154 p7_0 e7_0 rfl rfl rfl rfl rfl (Nat.le_of_ble_eq_true rfl) dL_law_1139 ?_
          intro r1139 hr1139
          refine g_icmp_eq hX dL_law_1142 (fun h1142 => ?_) (fun h1142 => ?_)
          · refine g_iinc hX dL_law_1147 ic_5 rfl (Nat.le_of_ble_eq_true rfl) rfl ?_
            refine g_goto hX dL_law_1150 ?_
            exact g_wk (lv0 := [some (.ref b), some (.ref (ad Z 0 0)), some (.ref (ad Z 32 0)), some (.int (s18_3 + 5))]) ⟨rfl, rfl, rfl, rfl, trivial⟩ (g_end (fun h => h))
          · refine g_iconst hX dL_law_1145 ic_0 ?_
            exact g_lawret hX HL (fun h => h) dL_law_1146
        refine g_tsd hX dL_law_32 (sw_out (n := 34) (fun k hk => match k, hk with | 0, _ => h32_0 | 1, _ => h32_1 | 2, _ => h32_2 | 3, _ => h32_3 | 4, _ => h32_4 | 5, _ => h32_5 | 6, _ => h32_6 | 7, _ => h32_7 | 8, _ => h32_8 | 9, _ => h32_9 | 10, _ => h32_10 | 11, _ => h32_11 | 12, _ => h32_12 | 13, _ => h32_13 | 14, _ => h32_14 | 15, _ => h32_15 | 16, _ => h32_16 | 17, _ => h32_17 | 18, _ => h32_18 | 19, _ => h32_19 | 20, _ => h32_20 | 21, _ => h32_21 | 22, _ => h32_22 | 23, _ => h32_23 | 24, _ => h32_24 | 25, _ => h32_25 | 26, _ => h32_26 | 27, _ => h32_27 | 28, _ => h32_28 | 29, _ => h32_29 | 30, _ => h32_30 | 31, _ => h32_31 | 32, _ => h32_32 | 33, _ => h32_33 | k + 34, hk => absurd hk (by omega))) rfl ?_
        refine g_iinc hX dL_law_1147 ic_5 rfl (Nat.le_of_ble_eq_true rfl) rfl ?_
        refine g_goto hX dL_law_1150 ?_
        exact g_wk (lv0 := [some (.ref b), some (.ref (ad Z 0 0)), some (.ref (ad Z 32 0)), some (.int (s18_3 + 5))]) ⟨rfl, rfl, rfl, rfl, trivial⟩ (g_end (fun h => h))
    · rintro (⟨s18_3, c18_, m18_, l18_⟩ | r)
      · show G _ _ (J Z X 4 c18_ m18_ l18_ 1153 [some (.ref b), some (.ref (ad Z 0 0)), some (.ref (ad Z 32 0)), some (.int s18_3)] [])
        refine g_iconst hX dL_law_1153 ic_1 ?_
        exact g_lawret hX HL (fun h => h) dL_law_1154
      · exact g_end (fun h => h)
  exact g 1 h rfl
