/-! PURE PART: how many bits are set -/
def pcn (v : Nat) : Nat :=
  let a := v - (v / 2 &&& 1431655765)
  let b := (a &&& 858993459) + (a / 4 &&& 858993459)
  let c := (b + b / 16) &&& 252645135
  let d := c + c / 256
  (d + d / 65536) % 64
def c16 (v : Nat) : Nat := v % 2 + v / 2 % 2 + v / 4 % 2 + v / 8 % 2 + v / 16 % 2 + v / 32 % 2 + v / 64 % 2 + v / 128 % 2 + v / 256 % 2 + v / 512 % 2 + v / 1024 % 2 + v / 2048 % 2 + v / 4096 % 2 + v / 8192 % 2 + v / 16384 % 2 + v / 32768 % 2
theorem pc_all : ((List.range 256).all fun h => (List.range 256).all fun l => pcn (256 * h + l) == c16 (256 * h + l)) = true := by decide +kernel
theorem pc_c16 {v : Nat} (h : v < 65536) : pcn v = c16 v := by
  have h1 := List.all_eq_true.mp pc_all (v / 256) (List.mem_range.mpr (by omega))
  have h2 := List.all_eq_true.mp h1 (v % 256) (List.mem_range.mpr (by omega))
  have h3 := eq_of_beq h2
  rwa [show 256 * (v / 256) + v % 256 = v by omega] at h3
theorem nI_and {a b : Nat} (ha : a < 2 ^ 32) (hb : b < 2 ^ 32) : nI a &&& nI b = nI (a &&& b) := by
  have hc : a &&& b < 2 ^ 32 := Nat.and_lt_two_pow _ hb
  apply Int32.toBitVec_inj.mp
  apply BitVec.eq_of_toNat_eq
  rw [Int32.toBitVec_and, BitVec.toNat_and, pk_tn ha, pk_tn hb, pk_tn hc]
def ush (x s : Int32) : Int32 := (x.toUInt32 >>> (s.toUInt32 &&& Int32.toUInt32 31)).toInt32
theorem bitc_N {v : Nat} (h : v < 65536) : f_J6_bitCount_0f7a4 (nI v) = some (nI (pcn v)) := by
  have e0 : f_J6_bitCount_0f7a4 (nI v) = (fun i1 => (fun i2 => (fun i3 => (fun i4 => some ((i4 + ush i4 16) &&& 63)) (i3 + ush i3 8)) ((i2 + ush i2 4) &&& 252645135)) ((i1 &&& 858993459) + (ush i1 2 &&& 858993459))) (nI v - (ush (nI v) 1 &&& 1431655765)) := rfl
  have s1 : nI v - (ush (nI v) 1 &&& 1431655765) = nI (v - (v / 2 &&& 1431655765)) := by
    unfold ush
    have := @Nat.and_le_left (v / 2 ^ 1) 1431655765
    rw [pk_ushrN (by omega) 1 1 (by decide), show (1431655765 : Int32) = nI 1431655765 from rfl, nI_and (by omega) (by omega), pk_sub (by omega)]
  have l1 : v - (v / 2 &&& 1431655765) < 65536 := by omega
  generalize hA : v - (v / 2 &&& 1431655765) = a at *
  have s2 : (nI a &&& 858993459) + (ush (nI a) 2 &&& 858993459) = nI ((a &&& 858993459) + (a / 4 &&& 858993459)) := by
    unfold ush
    rw [pk_ushrN (by omega) 2 2 (by decide), show (858993459 : Int32) = nI 858993459 from rfl, nI_and (by omega) (by omega), nI_and (by omega) (by omega), nI_add]
  have l2 : (a &&& 858993459) + (a / 4 &&& 858993459) < 2 ^ 20 := by
    have h1 := @Nat.and_le_left a 858993459
    have h2 := @Nat.and_le_left (a / 4) 858993459
    omega
  generalize hB : (a &&& 858993459) + (a / 4 &&& 858993459) = b at *
  have s3 : (nI b + ush (nI b) 4) &&& 252645135 = nI ((b + b / 16) &&& 252645135) := by
    unfold ush
    rw [pk_ushrN (by omega) 4 4 (by decide), show (252645135 : Int32) = nI 252645135 from rfl, nI_add, nI_and (by omega) (by omega)]
  have l3 : ((b + b / 16) &&& 252645135) < 2 ^ 22 := by
    have h1 := @Nat.and_le_left (b + b / 16) 252645135
    omega
  generalize hC : ((b + b / 16) &&& 252645135) = c at *
  have s4 : nI c + ush (nI c) 8 = nI (c + c / 256) := by
    unfold ush
    rw [pk_ushrN (by omega) 8 8 (by decide), nI_add]
  have s5 : ∀ d, d < 2 ^ 24 → (nI d + ush (nI d) 16) &&& 63 = nI ((d + d / 65536) % 64) := by
    intro d hd
    unfold ush
    rw [pk_ushrN (by omega) 16 16 (by decide), nI_add, pk_andN (by omega) 6 (by decide)]
  rw [e0, s1]
  dsimp only
  rw [s2, s3, s4, s5 _ (by omega), ← hC, ← hB, ← hA]
  rfl
theorem bt_N {v i : Nat} (hv : v < 2 ^ 32) : bt (nI v) i = decide (v / 2 ^ i % 2 = 1) := by
  unfold bt
  show (nI v).toBitVec.toNat.testBit i = _
  rw [pk_tn hv, Nat.testBit_eq_decide_div_mod_eq]
theorem bt_N1 {v i : Nat} (hv : v < 2 ^ 32) : (if bt (nI v) i = true then 1 else 0) = v / 2 ^ i % 2 := by
  rw [bt_N hv]
  by_cases h : v / 2 ^ i % 2 = 1
  · rw [if_pos (decide_eq_true h), h]
  · rw [if_neg (by rw [decide_eq_true_eq]; exact h)]; omega
theorem cnt_16 {v : Nat} (hv : v < 2 ^ 32) : cntP (bt (nI v)) 16 = c16 v := by
  simp only [cntP, bt_N1 hv, c16]
  simp only [Nat.pow_zero, Nat.div_one, Nat.zero_add, Nat.reducePow]
theorem small16 {x : Int32} (h : ∀ i, 16 ≤ i → i < 32 → bt x i = false) : ∃ v, v < 65536 ∧ x = nI v := by
  refine ⟨x.toBitVec.toNat, ?_, ?_⟩
  · refine Nat.lt_pow_two_of_testBit (n := 16) _ (fun i hi => ?_)
    by_cases h2 : i < 32
    · exact h i hi h2
    · exact b_big (x := x) (by omega)
  · apply Int32.toBitVec_inj.mp
    apply BitVec.eq_of_toNat_eq
    rw [pk_tn (BitVec.isLt _)]
/-- the JDK's count of bits -/
theorem bitc {x : Int32} (h : ∀ i, 16 ≤ i → i < 32 → bt x i = false) : f_J6_bitCount_0f7a4 x = some (nI (cntP (bt x) 16)) := by
  obtain ⟨v, hv, rfl⟩ := small16 h
  rw [bitc_N hv, pc_c16 hv, cnt_16 (by omega)]
theorem bit1 {x : Int32} {p : Nat} (hp : p < 32) : (x >>> (nI p &&& 31)) &&& 1 = if bt x p = true then 1 else 0 := by
  rw [and1, b_sshr p hp x (by omega), Nat.add_zero, if_pos hp]
theorem msize (x : Int32) : f_X7_sizeOf x = some (nI (cntP (bt x) 16)) := by
  unfold f_X7_sizeOf
  rw [itr_cnt (bt x) 16 (by omega) ?_ ?_, Option.bind_some]
  · intro i c hi _
    dsimp only
    unfold f_X7_sizeOf_B4
    rw [if_neg (show ¬ (16 : Int32) ≤ nI i from nI_ge (b := 16) hi (by omega)), bit1 (by omega), nI_1]
    by_cases h : bt x i = true
    · rw [if_pos h, if_pos h, nI_1]
    · rw [if_neg h, if_neg h, Int32.add_zero]; rfl
  · intro c
    dsimp only
    unfold f_X7_sizeOf_B4
    rw [if_pos (by decide)]
