/-! PURE PART: bits (rows of the kit's BITS family, pasted), cells of the office on both sides -/
def bt (x : Int32) (i : Nat) : Bool := x.toBitVec.getLsbD i
theorem b_ext {x y : Int32} (h : ∀ i, i < 32 → bt x i = bt y i) : x = y := Int32.toBitVec_inj.mp (BitVec.eq_of_getLsbD_eq (fun i hi => h i hi))
theorem b_or (x y : Int32) (i : Nat) : bt (x ||| y) i = (bt x i || bt y i) := by unfold bt; rw [Int32.toBitVec_or, BitVec.getLsbD_or]
theorem b_and (x y : Int32) (i : Nat) : bt (x &&& y) i = (bt x i && bt y i) := by unfold bt; rw [Int32.toBitVec_and, BitVec.getLsbD_and]
theorem b_xor (x y : Int32) (i : Nat) : bt (x ^^^ y) i = (bt x i ^^ bt y i) := by unfold bt; rw [Int32.toBitVec_xor, BitVec.getLsbD_xor]
theorem b_big {x : Int32} {i : Nat} (h : 32 ≤ i) : bt x i = false := BitVec.getLsbD_of_ge _ _ h
theorem b_255 (i : Nat) : bt 255 i = decide (i < 8) := by
  rcases Nat.lt_or_ge i 32 with h | h
  · exact (by decide +kernel : ∀ i, i < 32 → bt 255 i = decide (i < 8)) i h
  · rw [b_big h, decide_eq_false (by omega)]
theorem b_65535 (i : Nat) : bt 65535 i = decide (i < 16) := by
  rcases Nat.lt_or_ge i 32 with h | h
  · exact (by decide +kernel : ∀ i, i < 32 → bt 65535 i = decide (i < 16)) i h
  · rw [b_big h, decide_eq_false (by omega)]
theorem b_m1 : ∀ i, i < 32 → bt (-1) i = true := by decide +kernel
theorem b_0 (i : Nat) : bt 0 i = false := BitVec.getLsbD_zero
theorem s_l : ∀ n, n < 32 → ((nI n &&& 31).toBitVec.smod 32).toNat = n := by decide +kernel
theorem s_u : ∀ n, n < 32 → (((nI n).toUInt32 &&& Int32.toUInt32 31).toBitVec % 32).toNat = n := by decide +kernel
theorem b_shl (n : Nat) (hn : n < 32) (x : Int32) {i : Nat} (hi : i < 32) : bt (x <<< (nI n &&& 31)) i = (decide (n ≤ i) && bt x (i - n)) := by
  unfold bt
  rw [Int32.toBitVec_shiftLeft]
  show (x.toBitVec <<< ((nI n &&& 31).toBitVec.smod 32).toNat).getLsbD i = _
  rw [s_l n hn, BitVec.getLsbD_shiftLeft]
  rcases Nat.lt_or_ge i n with h | h
  · simp [h, Nat.not_le.mpr h]
  · simp [hi, h, Nat.not_lt.mpr h]
theorem b_ushr (n : Nat) (hn : n < 32) (x : Int32) (i : Nat) : bt ((x.toUInt32 >>> ((nI n).toUInt32 &&& Int32.toUInt32 31)).toInt32) i = bt x (n + i) := by
  show (x.toUInt32 >>> ((nI n).toUInt32 &&& Int32.toUInt32 31)).toBitVec.getLsbD i = x.toUInt32.toBitVec.getLsbD (n + i)
  rw [UInt32.toBitVec_shiftRight]
  show (x.toUInt32.toBitVec >>> (((nI n).toUInt32 &&& Int32.toUInt32 31).toBitVec % 32).toNat).getLsbD i = _
  rw [s_u n hn, BitVec.getLsbD_ushiftRight]
theorem b_sshr (n : Nat) (hn : n < 32) (x : Int32) {i : Nat} (hi : i < 32) : bt (x >>> (nI n &&& 31)) i = if n + i < 32 then bt x (n + i) else bt x 31 := by
  unfold bt
  rw [Int32.toBitVec_shiftRight]
  show (x.toBitVec.sshiftRight ((nI n &&& 31).toBitVec.smod 32).toNat).getLsbD i = _
  rw [s_l n hn, BitVec.getLsbD_sshiftRight, BitVec.msb_eq_getLsbD_last]
  simp [hi]
theorem b_1 : ∀ i, i < 32 → bt 1 i = decide (i = 0) := by decide +kernel
theorem and1 (y : Int32) : y &&& 1 = if bt y 0 = true then 1 else 0 := by
  apply b_ext
  intro i hi
  rw [b_and, b_1 i hi]
  by_cases h : i = 0
  · subst h
    cases hb : bt y 0 <;> simp [b_0, b_1]
  · cases hb : bt y 0 <;> simp [h, b_0, b_1 i hi]
theorem bt_test {x : Int32} {p : Nat} (hp : p < 32) : (((x >>> (nI p &&& 31)) &&& 1) = 1) = (bt x p = true) := by
  rw [and1, b_sshr p hp x (by omega), Nat.add_zero, if_pos hp]
  cases bt x p <;> simp
theorem bt_test0 {x : Int32} {p : Nat} (hp : p < 32) : (((x >>> (nI p &&& 31)) &&& 1) = 0) = (bt x p = false) := by
  rw [and1, b_sshr p hp x (by omega), Nat.add_zero, if_pos hp]
  cases bt x p <;> simp
theorem bt_take {m : Int32} {p i : Nat} (hp : p < 32) (hi : i < 32) : bt (m ||| (1 <<< (nI p &&& 31))) i = (bt m i || decide (i = p)) := by
  rw [b_or, b_shl p hp 1 hi]
  by_cases h : i = p
  · subst h; simp [b_1]
  · by_cases h2 : p ≤ i
    · rw [b_1 _ (by omega)]; simp [h, h2]; intro _; omega
    · simp [h, h2]
theorem bt_not {x m : Int32} {i : Nat} (hi : i < 32) : bt (x &&& (m ^^^ (-1))) i = (bt x i && !bt m i) := by
  rw [b_and, b_xor, b_m1 i hi]
  cases bt m i <;> rfl
theorem oget {cm : CM} {o j : Nat} {a b : Int32} (h : a + b = nI j) (hj : j < 159) : f_X3_get cm o a b = some (cm o 1 j) := by
  unfold f_X3_get
  rw [h, if_neg (nI_pos (by omega)), if_neg (show ¬ (159 : Int32) ≤ nI j from nI_ge (b := 159) hj (by omega)), rd_nI _ hj (by omega)]
  rfl
theorem oset {cm : CM} {o j : Nat} {a b v : Int32} (h : a + b = nI j) (hj : j < 159) : f_X3_set cm o a b v = some (u3 cm o 1 (upd (cm o 1) j v)) := by
  unfold f_X3_set
  rw [h, if_neg (nI_pos (by omega)), if_neg (show ¬ (159 : Int32) ≤ nI j from nI_ge (b := 159) hj (by omega)), wr_nI _ _ hj (by omega)]
  rfl
theorem og_0 {cm : CM} {o p : Nat} (h : p < 16) : f_X3_get cm o 0 (nI p) = some (cm o 1 (p)) := oget (by rw [show (0 : Int32) = nI 0 from rfl, nI_add, Nat.zero_add]) (by omega)
theorem os_0 {cm : CM} {o p : Nat} {v : Int32} (h : p < 16) : f_X3_set cm o 0 (nI p) v = some (u3 cm o 1 (upd (cm o 1) (p) v)) := oset (by rw [show (0 : Int32) = nI 0 from rfl, nI_add, Nat.zero_add]) (by omega)
theorem og_16 {cm : CM} {o p : Nat} (h : p < 16) : f_X3_get cm o 16 (nI p) = some (cm o 1 (16 + p)) := oget (nI_add 16 p) (by omega)
theorem os_16 {cm : CM} {o p : Nat} {v : Int32} (h : p < 16) : f_X3_set cm o 16 (nI p) v = some (u3 cm o 1 (upd (cm o 1) (16 + p) v)) := oset (nI_add 16 p) (by omega)
theorem og_32 {cm : CM} {o p : Nat} (h : p < 16) : f_X3_get cm o 32 (nI p) = some (cm o 1 (32 + p)) := oget (nI_add 32 p) (by omega)
theorem os_32 {cm : CM} {o p : Nat} {v : Int32} (h : p < 16) : f_X3_set cm o 32 (nI p) v = some (u3 cm o 1 (upd (cm o 1) (32 + p) v)) := oset (nI_add 32 p) (by omega)
theorem og_48 {cm : CM} {o p : Nat} (h : p < 16) : f_X3_get cm o 48 (nI p) = some (cm o 1 (48 + p)) := oget (nI_add 48 p) (by omega)
theorem os_48 {cm : CM} {o p : Nat} {v : Int32} (h : p < 16) : f_X3_set cm o 48 (nI p) v = some (u3 cm o 1 (upd (cm o 1) (48 + p) v)) := oset (nI_add 48 p) (by omega)
theorem og_64 {cm : CM} {o p : Nat} (h : p < 16) : f_X3_get cm o 64 (nI p) = some (cm o 1 (64 + p)) := oget (nI_add 64 p) (by omega)
theorem os_64 {cm : CM} {o p : Nat} {v : Int32} (h : p < 16) : f_X3_set cm o 64 (nI p) v = some (u3 cm o 1 (upd (cm o 1) (64 + p) v)) := oset (nI_add 64 p) (by omega)
theorem og_80 {cm : CM} {o p : Nat} (h : p < 16) : f_X3_get cm o 80 (nI p) = some (cm o 1 (80 + p)) := oget (nI_add 80 p) (by omega)
theorem os_80 {cm : CM} {o p : Nat} {v : Int32} (h : p < 16) : f_X3_set cm o 80 (nI p) v = some (u3 cm o 1 (upd (cm o 1) (80 + p) v)) := oset (nI_add 80 p) (by omega)
theorem og_96 {cm : CM} {o p : Nat} (h : p < 16) : f_X3_get cm o 96 (nI p) = some (cm o 1 (96 + p)) := oget (nI_add 96 p) (by omega)
theorem os_96 {cm : CM} {o p : Nat} {v : Int32} (h : p < 16) : f_X3_set cm o 96 (nI p) v = some (u3 cm o 1 (upd (cm o 1) (96 + p) v)) := oset (nI_add 96 p) (by omega)
theorem og_112 {cm : CM} {o p : Nat} (h : p < 16) : f_X3_get cm o 112 (nI p) = some (cm o 1 (112 + p)) := oget (nI_add 112 p) (by omega)
theorem os_112 {cm : CM} {o p : Nat} {v : Int32} (h : p < 16) : f_X3_set cm o 112 (nI p) v = some (u3 cm o 1 (upd (cm o 1) (112 + p) v)) := oset (nI_add 112 p) (by omega)
theorem og_128 {cm : CM} {o p : Nat} (h : p < 4) : f_X3_get cm o 128 (nI p) = some (cm o 1 (128 + p)) := oget (nI_add 128 p) (by omega)
theorem os_128 {cm : CM} {o p : Nat} {v : Int32} (h : p < 4) : f_X3_set cm o 128 (nI p) v = some (u3 cm o 1 (upd (cm o 1) (128 + p) v)) := oset (nI_add 128 p) (by omega)
theorem og_132 {cm : CM} {o p : Nat} (h : p < 16) : f_X3_get cm o 132 (nI p) = some (cm o 1 (132 + p)) := oget (nI_add 132 p) (by omega)
theorem os_132 {cm : CM} {o p : Nat} {v : Int32} (h : p < 16) : f_X3_set cm o 132 (nI p) v = some (u3 cm o 1 (upd (cm o 1) (132 + p) v)) := oset (nI_add 132 p) (by omega)
theorem og_148 {cm : CM} {o p : Nat} (h : p < 4) : f_X3_get cm o 148 (nI p) = some (cm o 1 (148 + p)) := oget (nI_add 148 p) (by omega)
theorem os_148 {cm : CM} {o p : Nat} {v : Int32} (h : p < 4) : f_X3_set cm o 148 (nI p) v = some (u3 cm o 1 (upd (cm o 1) (148 + p) v)) := oset (nI_add 148 p) (by omega)
theorem og_152 {cm : CM} {o p : Nat} (h : p < 4) : f_X3_get cm o 152 (nI p) = some (cm o 1 (152 + p)) := oget (nI_add 152 p) (by omega)
theorem os_152 {cm : CM} {o p : Nat} {v : Int32} (h : p < 4) : f_X3_set cm o 152 (nI p) v = some (u3 cm o 1 (upd (cm o 1) (152 + p) v)) := oset (nI_add 152 p) (by omega)
theorem og_156 {cm : CM} {o : Nat} : f_X3_get cm o 156 0 = some (cm o 1 156) := oget (by decide) (by decide)
theorem os_156 {cm : CM} {o : Nat} {v : Int32} : f_X3_set cm o 156 0 v = some (u3 cm o 1 (upd (cm o 1) 156 v)) := oset (by decide) (by decide)
theorem og_157 {cm : CM} {o : Nat} : f_X3_get cm o 157 0 = some (cm o 1 157) := oget (by decide) (by decide)
theorem os_157 {cm : CM} {o : Nat} {v : Int32} : f_X3_set cm o 157 0 v = some (u3 cm o 1 (upd (cm o 1) 157 v)) := oset (by decide) (by decide)
theorem og_158 {cm : CM} {o : Nat} : f_X3_get cm o 158 0 = some (cm o 1 158) := oget (by decide) (by decide)
theorem os_158 {cm : CM} {o : Nat} {v : Int32} : f_X3_set cm o 158 0 v = some (u3 cm o 1 (upd (cm o 1) 158 v)) := oset (by decide) (by decide)
theorem os_152_0 {cm : CM} {o : Nat} {v : Int32} : f_X3_set cm o 152 0 v = some (u3 cm o 1 (upd (cm o 1) 152 v)) := oset (by decide) (by decide)
theorem os_152_1 {cm : CM} {o : Nat} {v : Int32} : f_X3_set cm o 152 1 v = some (u3 cm o 1 (upd (cm o 1) 153 v)) := oset (by decide) (by decide)
theorem os_152_2 {cm : CM} {o : Nat} {v : Int32} : f_X3_set cm o 152 2 v = some (u3 cm o 1 (upd (cm o 1) 154 v)) := oset (by decide) (by decide)
theorem os_152_3 {cm : CM} {o : Nat} {v : Int32} : f_X3_set cm o 152 3 v = some (u3 cm o 1 (upd (cm o 1) 155 v)) := oset (by decide) (by decide)
theorem opeople {cm : CM} {o : Nat} : f_X3_people cm o = some (cm o 1 158) := by
  unfold f_X3_people
  rw [og_158]
  rfl
theorem mof {mm : MM} {p w : Nat} (hp : p < 16) (hw : w < 8) : f_X7_of mm (nI p) (nI w) = some (mm 1 (8 * p + w)) := by
  unfold f_X7_of
  rw [show (8 : Int32) * nI p + nI w = nI (8 * p + w) by rw [show (8 : Int32) = nI 8 from rfl, pk_mul, nI_add], rd_nI _ (by omega) (by omega)]
  rfl
theorem mbec {mm : MM} {p w : Nat} {v : Int32} (hp : p < 16) (hw : w < 8) : f_X7_become mm (nI p) (nI w) v = some (u2 mm 1 (upd (mm 1) (8 * p + w) v)) := by
  unfold f_X7_become
  rw [show (8 : Int32) * nI p + nI w = nI (8 * p + w) by rw [show (8 : Int32) = nI 8 from rfl, pk_mul, nI_add], wr_nI _ _ (by omega) (by omega)]
  rfl
theorem mo_0 {mm : MM} {p : Nat} (hp : p < 16) : f_X7_of mm (nI p) 0 = some (mm 1 (8 * p)) := mof (w := 0) hp (by decide)
theorem mb_0 {mm : MM} {p : Nat} {v : Int32} (hp : p < 16) : f_X7_become mm (nI p) 0 v = some (u2 mm 1 (upd (mm 1) (8 * p) v)) := mbec (w := 0) hp (by decide)
theorem mo_1 {mm : MM} {p : Nat} (hp : p < 16) : f_X7_of mm (nI p) 1 = some (mm 1 (8 * p + 1)) := mof (w := 1) hp (by decide)
theorem mb_1 {mm : MM} {p : Nat} {v : Int32} (hp : p < 16) : f_X7_become mm (nI p) 1 v = some (u2 mm 1 (upd (mm 1) (8 * p + 1) v)) := mbec (w := 1) hp (by decide)
theorem mo_2 {mm : MM} {p : Nat} (hp : p < 16) : f_X7_of mm (nI p) 2 = some (mm 1 (8 * p + 2)) := mof (w := 2) hp (by decide)
theorem mb_2 {mm : MM} {p : Nat} {v : Int32} (hp : p < 16) : f_X7_become mm (nI p) 2 v = some (u2 mm 1 (upd (mm 1) (8 * p + 2) v)) := mbec (w := 2) hp (by decide)
theorem mo_3 {mm : MM} {p : Nat} (hp : p < 16) : f_X7_of mm (nI p) 3 = some (mm 1 (8 * p + 3)) := mof (w := 3) hp (by decide)
theorem mb_3 {mm : MM} {p : Nat} {v : Int32} (hp : p < 16) : f_X7_become mm (nI p) 3 v = some (u2 mm 1 (upd (mm 1) (8 * p + 3) v)) := mbec (w := 3) hp (by decide)
theorem mo_4 {mm : MM} {p : Nat} (hp : p < 16) : f_X7_of mm (nI p) 4 = some (mm 1 (8 * p + 4)) := mof (w := 4) hp (by decide)
theorem mb_4 {mm : MM} {p : Nat} {v : Int32} (hp : p < 16) : f_X7_become mm (nI p) 4 v = some (u2 mm 1 (upd (mm 1) (8 * p + 4) v)) := mbec (w := 4) hp (by decide)
theorem mo_5 {mm : MM} {p : Nat} (hp : p < 16) : f_X7_of mm (nI p) 5 = some (mm 1 (8 * p + 5)) := mof (w := 5) hp (by decide)
theorem mb_5 {mm : MM} {p : Nat} {v : Int32} (hp : p < 16) : f_X7_become mm (nI p) 5 v = some (u2 mm 1 (upd (mm 1) (8 * p + 5) v)) := mbec (w := 5) hp (by decide)
theorem mo_6 {mm : MM} {p : Nat} (hp : p < 16) : f_X7_of mm (nI p) 6 = some (mm 1 (8 * p + 6)) := mof (w := 6) hp (by decide)
theorem mb_6 {mm : MM} {p : Nat} {v : Int32} (hp : p < 16) : f_X7_become mm (nI p) 6 v = some (u2 mm 1 (upd (mm 1) (8 * p + 6) v)) := mbec (w := 6) hp (by decide)
theorem mo_7 {mm : MM} {p : Nat} (hp : p < 16) : f_X7_of mm (nI p) 7 = some (mm 1 (8 * p + 7)) := mof (w := 7) hp (by decide)
theorem mb_7 {mm : MM} {p : Nat} {v : Int32} (hp : p < 16) : f_X7_become mm (nI p) 7 v = some (u2 mm 1 (upd (mm 1) (8 * p + 7) v)) := mbec (w := 7) hp (by decide)
theorem rd_156 (f : Nat → Int32) : rd 159 f 156 = some (f 156) := rd_nI (k := 156) f (by decide) (by decide)
theorem rd_157 (f : Nat → Int32) : rd 159 f 157 = some (f 157) := rd_nI (k := 157) f (by decide) (by decide)
theorem rd_158 (f : Nat → Int32) : rd 159 f 158 = some (f 158) := rd_nI (k := 158) f (by decide) (by decide)
theorem rdo_128 (f : Nat → Int32) {p : Nat} (h : p < 4) : rd 159 f (128 + nI p) = some (f (128 + p)) := by
  rw [show (128 : Int32) + nI p = nI (128 + p) from nI_add 128 p]
  exact rd_nI f (by omega) (by omega)
theorem rdo_148 (f : Nat → Int32) {p : Nat} (h : p < 4) : rd 159 f (148 + nI p) = some (f (148 + p)) := by
  rw [show (148 : Int32) + nI p = nI (148 + p) from nI_add 148 p]
  exact rd_nI f (by omega) (by omega)
theorem rdo_152 (f : Nat → Int32) {p : Nat} (h : p < 4) : rd 159 f (152 + nI p) = some (f (152 + p)) := by
  rw [show (152 : Int32) + nI p = nI (152 + p) from nI_add 152 p]
  exact rd_nI f (by omega) (by omega)
/-- whether an applicant takes part, by its standing -/
def actv (x : Int32) : Prop := ¬ 2 < x
theorem oactive {cm : CM} {o p : Nat} (h : p < 16) : f_X3_isActive cm o (nI p) = some (if 2 < cm o 1 (64 + p) then 0 else 1) := by
  unfold f_X3_isActive
  rw [og_64 h]
  show (if _ then _ else _) = _
  split <;> rfl
theorem mactive {mm : MM} {p : Nat} (h : p < 16) : f_X7_takesPart mm (nI p) = some (if 2 < mm 1 (8 * p + 4) then 0 else 1) := by
  unfold f_X7_takesPart
  rw [mo_4 h]
  show (if _ then _ else _) = _
  split <;> rfl
theorem mcand {mm : MM} {p : Nat} {k : Int32} (h : p < 16) : f_X7_isCandidate mm (nI p) k = some (if k = 0 ∨ mm 1 (8 * p + 2) = k then 1 else 0) := by
  unfold f_X7_isCandidate
  by_cases hk : k = 0
  · rw [if_pos hk, if_pos (Or.inl hk)]
  · rw [if_neg hk, mo_2 h]
    show (if _ then _ else _) = _
    by_cases h2 : mm 1 (8 * p + 2) = k
    · rw [if_pos h2, if_pos (Or.inr h2)]
    · rw [if_neg h2, if_neg (fun q => q.elim hk h2)]
theorem mwithin (x : Int32) {a b : Nat} (hb : b < 2 ^ 31) (ha : a ≤ b) : (∃ j, a ≤ j ∧ j ≤ b ∧ x = nI j ∧ f_X7_within x (nI a) (nI b) = some 1) ∨ ((∀ j, a ≤ j → j ≤ b → ¬ x = nI j) ∧ f_X7_within x (nI a) (nI b) = some 0) := by
  unfold f_X7_within
  by_cases h1 : x < nI a
  · refine Or.inr ⟨fun j h2 h3 e => ?_, by rw [if_pos h1]⟩
    rw [e] at h1
    exact nI_nlt h2 (by omega) h1
  · by_cases h2 : nI b < x
    · refine Or.inr ⟨fun j h3 h4 e => ?_, by rw [if_neg h1, if_pos h2]⟩
      rw [e] at h2
      exact nI_nlt h4 hb h2
    · have e1 : ¬ x.toInt < a := by
        rw [← nI_toInt (n := a) (by omega)]
        exact fun q => h1 (Int32.lt_iff_toInt_lt.mpr q)
      have e2 : ¬ (b : Int) < x.toInt := by
        rw [← nI_toInt hb]
        exact fun q => h2 (Int32.lt_iff_toInt_lt.mpr q)
      obtain ⟨j, hj, e⟩ := nI_of (x := x) (by rw [Int32.lt_iff_toInt_lt]; show ¬ x.toInt < 0; omega)
      rw [e, nI_toInt hj] at e1 e2
      exact Or.inl ⟨j, by omega, by omega, e, by rw [if_neg h1, if_neg h2]⟩
theorem owithin (x : Int32) {b : Nat} (hb : b < 2 ^ 31) : (∃ j, j ≤ b ∧ x = nI j ∧ f_X6_isWithin x (nI b) = some 1) ∨ ((∀ j, j ≤ b → ¬ x = nI j) ∧ f_X6_isWithin x (nI b) = some 0) := by
  have h : f_X6_isWithin x (nI b) = f_X7_within x (nI 0) (nI b) := rfl
  rw [h]
  rcases mwithin x (a := 0) hb (Nat.zero_le _) with ⟨j, -, h2, h3, h4⟩ | ⟨h1, h2⟩
  · exact Or.inl ⟨j, h2, h3, h4⟩
  · exact Or.inr ⟨fun j hj => h1 j (Nat.zero_le _) hj, h2⟩
theorem owithin_y {j b : Nat} (hb : b < 2 ^ 31) (h : j ≤ b) : f_X6_isWithin (nI j) (nI b) = some 1 := by
  unfold f_X6_isWithin
  rw [if_neg (nI_pos (by omega)), if_neg (nI_nlt h hb)]
theorem okind_y {j : Nat} (h : j < 4) : f_X6_isKind (nI j) = some 1 := by
  unfold f_X6_isKind
  rw [show (3 : Int32) = nI 3 from rfl, owithin_y (by decide) (by omega)]
  rfl
theorem okind_9 : f_X6_isKind (-9) = some 0 := by decide
theorem ogroup_y {j : Nat} (h : j < 4) : f_X6_isGroup (nI j) = some 1 := by
  unfold f_X6_isGroup
  rw [show (3 : Int32) = nI 3 from rfl, owithin_y (by decide) (by omega)]
  rfl
theorem ogroup_9 : f_X6_isGroup (-9) = some 0 := by decide
