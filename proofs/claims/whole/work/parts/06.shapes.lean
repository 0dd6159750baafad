/-! what each part of the world is: e.. (as it stands), s.. (with other contents) -/
def isCh (C : Nat) : Prop := C = 27 ∨ C = 29
def isOf (o : Nat) : Prop := kd o = 3 ∧ o < 33
theorem isCh27 : isCh 27 := Or.inl rfl
theorem isCh29 : isCh 29 := Or.inr rfl
theorem isOf1 : isOf 1 := ⟨rfl, by decide⟩
theorem isOf28 : isOf 28 := ⟨rfl, by decide⟩
theorem isOfP : ∀ i, i < 24 → isOf (3 + i) := by
  unfold isOf
  decide +kernel
theorem okC {C pt : Nat} (h : isCh C) (hp : pt < 21) : okp C pt := by rcases h with rfl | rfl <;> exact ⟨by decide, hp⟩
theorem okO {o pt : Nat} (h : isOf o) (hp : pt < 2) : okp o pt := ⟨h.2, by rw [h.1]; exact hp⟩
theorem n32C {C : Nat} (h : isCh C) : C ≠ 32 := by rcases h with rfl | rfl <;> decide
theorem n32O {o : Nat} (h : isOf o) : o ≠ 32 := by intro e; subst e; exact absurd h.1 (by decide)
theorem s0_0 {C : Nat} (h : isCh C) (Z : ZC) : ∀ f, enC Z (kd C) C 0 f = .inr (0, [.ref (ad Z C 1), .ref (ad Z C 3), .ref (ad Z C 5), .ref (ad Z C 7), .ref (ad Z C 9), .ref (ad Z C 11), .ref (ad Z C 13), .ref (ad Z C 15), .ref (ad Z C 17), .int (f 9), .int (f 10), .int (f 11)]) := by rcases h with rfl | rfl <;> exact fun _ => rfl
theorem e0_0 {Z : ZC} {cm : CM} {mm : MM} {lm : LM} {C : Nat} (h : isCh C) : en Z cm mm lm C 0 = .inr (0, [.ref (ad Z C 1), .ref (ad Z C 3), .ref (ad Z C 5), .ref (ad Z C 7), .ref (ad Z C 9), .ref (ad Z C 11), .ref (ad Z C 13), .ref (ad Z C 15), .ref (ad Z C 17), .int (cm C 0 9), .int (cm C 0 10), .int (cm C 0 11)]) := (en_c (n32C h)).trans (s0_0 h Z _)
theorem s0_1 {C : Nat} (h : isCh C) (Z : ZC) : ∀ f, enC Z (kd C) C 1 f = .inr (4, [.ref (ad Z C 2)]) := by rcases h with rfl | rfl <;> exact fun _ => rfl
theorem e0_1 {Z : ZC} {cm : CM} {mm : MM} {lm : LM} {C : Nat} (h : isCh C) : en Z cm mm lm C 1 = .inr (4, [.ref (ad Z C 2)]) := (en_c (n32C h)).trans (s0_1 h Z _)
theorem s0_2 {C : Nat} (h : isCh C) (Z : ZC) : ∀ f, enC Z (kd C) C 2 f = .inl (zI Z, 16, .inl (f)) := by rcases h with rfl | rfl <;> exact fun _ => rfl
theorem e0_2 {Z : ZC} {cm : CM} {mm : MM} {lm : LM} {C : Nat} (h : isCh C) : en Z cm mm lm C 2 = .inl (zI Z, 16, .inl (cm C 2)) := (en_c (n32C h)).trans (s0_2 h Z _)
theorem s0_3 {C : Nat} (h : isCh C) (Z : ZC) : ∀ f, enC Z (kd C) C 3 f = .inr (4, [.ref (ad Z C 4)]) := by rcases h with rfl | rfl <;> exact fun _ => rfl
theorem e0_3 {Z : ZC} {cm : CM} {mm : MM} {lm : LM} {C : Nat} (h : isCh C) : en Z cm mm lm C 3 = .inr (4, [.ref (ad Z C 4)]) := (en_c (n32C h)).trans (s0_3 h Z _)
theorem s0_4 {C : Nat} (h : isCh C) (Z : ZC) : ∀ f, enC Z (kd C) C 4 f = .inl (zI Z, 4, .inl (f)) := by rcases h with rfl | rfl <;> exact fun _ => rfl
theorem e0_4 {Z : ZC} {cm : CM} {mm : MM} {lm : LM} {C : Nat} (h : isCh C) : en Z cm mm lm C 4 = .inl (zI Z, 4, .inl (cm C 4)) := (en_c (n32C h)).trans (s0_4 h Z _)
theorem s0_5 {C : Nat} (h : isCh C) (Z : ZC) : ∀ f, enC Z (kd C) C 5 f = .inr (4, [.ref (ad Z C 6)]) := by rcases h with rfl | rfl <;> exact fun _ => rfl
theorem e0_5 {Z : ZC} {cm : CM} {mm : MM} {lm : LM} {C : Nat} (h : isCh C) : en Z cm mm lm C 5 = .inr (4, [.ref (ad Z C 6)]) := (en_c (n32C h)).trans (s0_5 h Z _)
theorem s0_6 {C : Nat} (h : isCh C) (Z : ZC) : ∀ f, enC Z (kd C) C 6 f = .inl (zI Z, 16, .inl (f)) := by rcases h with rfl | rfl <;> exact fun _ => rfl
theorem e0_6 {Z : ZC} {cm : CM} {mm : MM} {lm : LM} {C : Nat} (h : isCh C) : en Z cm mm lm C 6 = .inl (zI Z, 16, .inl (cm C 6)) := (en_c (n32C h)).trans (s0_6 h Z _)
theorem s0_7 {C : Nat} (h : isCh C) (Z : ZC) : ∀ f, enC Z (kd C) C 7 f = .inr (4, [.ref (ad Z C 8)]) := by rcases h with rfl | rfl <;> exact fun _ => rfl
theorem e0_7 {Z : ZC} {cm : CM} {mm : MM} {lm : LM} {C : Nat} (h : isCh C) : en Z cm mm lm C 7 = .inr (4, [.ref (ad Z C 8)]) := (en_c (n32C h)).trans (s0_7 h Z _)
theorem s0_8 {C : Nat} (h : isCh C) (Z : ZC) : ∀ f, enC Z (kd C) C 8 f = .inl (zI Z, 4, .inl (f)) := by rcases h with rfl | rfl <;> exact fun _ => rfl
theorem e0_8 {Z : ZC} {cm : CM} {mm : MM} {lm : LM} {C : Nat} (h : isCh C) : en Z cm mm lm C 8 = .inl (zI Z, 4, .inl (cm C 8)) := (en_c (n32C h)).trans (s0_8 h Z _)
theorem s0_9 {C : Nat} (h : isCh C) (Z : ZC) : ∀ f, enC Z (kd C) C 9 f = .inr (4, [.ref (ad Z C 10)]) := by rcases h with rfl | rfl <;> exact fun _ => rfl
theorem e0_9 {Z : ZC} {cm : CM} {mm : MM} {lm : LM} {C : Nat} (h : isCh C) : en Z cm mm lm C 9 = .inr (4, [.ref (ad Z C 10)]) := (en_c (n32C h)).trans (s0_9 h Z _)
theorem s0_10 {C : Nat} (h : isCh C) (Z : ZC) : ∀ f, enC Z (kd C) C 10 f = .inl (zI Z, 16, .inl (f)) := by rcases h with rfl | rfl <;> exact fun _ => rfl
theorem e0_10 {Z : ZC} {cm : CM} {mm : MM} {lm : LM} {C : Nat} (h : isCh C) : en Z cm mm lm C 10 = .inl (zI Z, 16, .inl (cm C 10)) := (en_c (n32C h)).trans (s0_10 h Z _)
theorem s0_11 {C : Nat} (h : isCh C) (Z : ZC) : ∀ f, enC Z (kd C) C 11 f = .inr (4, [.ref (ad Z C 12)]) := by rcases h with rfl | rfl <;> exact fun _ => rfl
theorem e0_11 {Z : ZC} {cm : CM} {mm : MM} {lm : LM} {C : Nat} (h : isCh C) : en Z cm mm lm C 11 = .inr (4, [.ref (ad Z C 12)]) := (en_c (n32C h)).trans (s0_11 h Z _)
theorem s0_12 {C : Nat} (h : isCh C) (Z : ZC) : ∀ f, enC Z (kd C) C 12 f = .inl (zI Z, 16, .inl (f)) := by rcases h with rfl | rfl <;> exact fun _ => rfl
theorem e0_12 {Z : ZC} {cm : CM} {mm : MM} {lm : LM} {C : Nat} (h : isCh C) : en Z cm mm lm C 12 = .inl (zI Z, 16, .inl (cm C 12)) := (en_c (n32C h)).trans (s0_12 h Z _)
theorem s0_13 {C : Nat} (h : isCh C) (Z : ZC) : ∀ f, enC Z (kd C) C 13 f = .inr (4, [.ref (ad Z C 14)]) := by rcases h with rfl | rfl <;> exact fun _ => rfl
theorem e0_13 {Z : ZC} {cm : CM} {mm : MM} {lm : LM} {C : Nat} (h : isCh C) : en Z cm mm lm C 13 = .inr (4, [.ref (ad Z C 14)]) := (en_c (n32C h)).trans (s0_13 h Z _)
theorem s0_14 {C : Nat} (h : isCh C) (Z : ZC) : ∀ f, enC Z (kd C) C 14 f = .inl (zI Z, 16, .inl (f)) := by rcases h with rfl | rfl <;> exact fun _ => rfl
theorem e0_14 {Z : ZC} {cm : CM} {mm : MM} {lm : LM} {C : Nat} (h : isCh C) : en Z cm mm lm C 14 = .inl (zI Z, 16, .inl (cm C 14)) := (en_c (n32C h)).trans (s0_14 h Z _)
theorem s0_15 {C : Nat} (h : isCh C) (Z : ZC) : ∀ f, enC Z (kd C) C 15 f = .inr (4, [.ref (ad Z C 16)]) := by rcases h with rfl | rfl <;> exact fun _ => rfl
theorem e0_15 {Z : ZC} {cm : CM} {mm : MM} {lm : LM} {C : Nat} (h : isCh C) : en Z cm mm lm C 15 = .inr (4, [.ref (ad Z C 16)]) := (en_c (n32C h)).trans (s0_15 h Z _)
theorem s0_16 {C : Nat} (h : isCh C) (Z : ZC) : ∀ f, enC Z (kd C) C 16 f = .inl (zI Z, 16, .inl (f)) := by rcases h with rfl | rfl <;> exact fun _ => rfl
theorem e0_16 {Z : ZC} {cm : CM} {mm : MM} {lm : LM} {C : Nat} (h : isCh C) : en Z cm mm lm C 16 = .inl (zI Z, 16, .inl (cm C 16)) := (en_c (n32C h)).trans (s0_16 h Z _)
theorem s0_17 {C : Nat} (h : isCh C) (Z : ZC) : ∀ f, enC Z (kd C) C 17 f = .inr (5, [.ref (ad Z C 18), .ref (ad Z C 19)]) := by rcases h with rfl | rfl <;> exact fun _ => rfl
theorem e0_17 {Z : ZC} {cm : CM} {mm : MM} {lm : LM} {C : Nat} (h : isCh C) : en Z cm mm lm C 17 = .inr (5, [.ref (ad Z C 18), .ref (ad Z C 19)]) := (en_c (n32C h)).trans (s0_17 h Z _)
theorem s0_18 {C : Nat} (h : isCh C) (Z : ZC) : ∀ f, enC Z (kd C) C 18 f = .inl (zI Z, 16, .inl (f)) := by rcases h with rfl | rfl <;> exact fun _ => rfl
theorem e0_18 {Z : ZC} {cm : CM} {mm : MM} {lm : LM} {C : Nat} (h : isCh C) : en Z cm mm lm C 18 = .inl (zI Z, 16, .inl (cm C 18)) := (en_c (n32C h)).trans (s0_18 h Z _)
theorem s0_19 {C : Nat} (h : isCh C) (Z : ZC) : ∀ f, enC Z (kd C) C 19 f = .inr (4, [.ref (ad Z C 20)]) := by rcases h with rfl | rfl <;> exact fun _ => rfl
theorem e0_19 {Z : ZC} {cm : CM} {mm : MM} {lm : LM} {C : Nat} (h : isCh C) : en Z cm mm lm C 19 = .inr (4, [.ref (ad Z C 20)]) := (en_c (n32C h)).trans (s0_19 h Z _)
theorem s0_20 {C : Nat} (h : isCh C) (Z : ZC) : ∀ f, enC Z (kd C) C 20 f = .inl (zI Z, 4, .inl (f)) := by rcases h with rfl | rfl <;> exact fun _ => rfl
theorem e0_20 {Z : ZC} {cm : CM} {mm : MM} {lm : LM} {C : Nat} (h : isCh C) : en Z cm mm lm C 20 = .inl (zI Z, 4, .inl (cm C 20)) := (en_c (n32C h)).trans (s0_20 h Z _)
theorem s3_0 {o : Nat} (h : isOf o) (Z : ZC) : ∀ f, enC Z (kd o) o 0 f = .inr (3, [.ref (ad Z o 1)]) := by intro f; rw [h.1]; rfl
theorem s3_1 {o : Nat} (h : isOf o) (Z : ZC) : ∀ f, enC Z (kd o) o 1 f = .inl (zI Z, 159, .inl f) := by intro f; rw [h.1]; rfl
theorem e3_0 {Z : ZC} {cm : CM} {mm : MM} {lm : LM} {o : Nat} (h : isOf o) : en Z cm mm lm o 0 = .inr (3, [.ref (ad Z o 1)]) := (en_c (n32O h)).trans (s3_0 h Z _)
theorem e3_1 {Z : ZC} {cm : CM} {mm : MM} {lm : LM} {o : Nat} (h : isOf o) : en Z cm mm lm o 1 = .inl (zI Z, 159, .inl (cm o 1)) := (en_c (n32O h)).trans (s3_1 h Z _)
theorem s6_0 (Z : ZC) : ∀ f, enC Z (kd 0) 0 0 f = .inr (6, [.ref (ad Z 1 0), .ref (ad Z 2 0), .ref (ad Z 27 0), .ref (ad Z 28 0), .ref (ad Z 29 0), .ref (ad Z 30 0), .ref (ad Z 31 0), .int (f 7)]) := fun _ => rfl
theorem e6_0 {Z : ZC} {cm : CM} {mm : MM} {lm : LM} : en Z cm mm lm 0 0 = .inr (6, [.ref (ad Z 1 0), .ref (ad Z 2 0), .ref (ad Z 27 0), .ref (ad Z 28 0), .ref (ad Z 29 0), .ref (ad Z 30 0), .ref (ad Z 31 0), .int (cm 0 0 7)]) := rfl
theorem p6_0 : okp 0 0 := by decide
theorem s2_0 (Z : ZC) : ∀ f, enC Z (kd 2) 2 0 f = .inr (2, [.ref (ad Z 2 1), .int (f 1), .int (f 2)]) := fun _ => rfl
theorem e2_0 {Z : ZC} {cm : CM} {mm : MM} {lm : LM} : en Z cm mm lm 2 0 = .inr (2, [.ref (ad Z 2 1), .int (cm 2 0 1), .int (cm 2 0 2)]) := rfl
theorem p2_0 : okp 2 0 := by decide
theorem s1_0 (Z : ZC) : ∀ f, enC Z (kd 30) 30 0 f = .inr (1, [.ref (ad Z 30 1)]) := fun _ => rfl
theorem e1_0 {Z : ZC} {cm : CM} {mm : MM} {lm : LM} : en Z cm mm lm 30 0 = .inr (1, [.ref (ad Z 30 1)]) := rfl
theorem p1_0 : okp 30 0 := by decide
theorem s1_1 (Z : ZC) : ∀ f, enC Z (kd 30) 30 1 f = .inr (4, [.ref (ad Z 30 2)]) := fun _ => rfl
theorem e1_1 {Z : ZC} {cm : CM} {mm : MM} {lm : LM} : en Z cm mm lm 30 1 = .inr (4, [.ref (ad Z 30 2)]) := rfl
theorem p1_1 : okp 30 1 := by decide
theorem s1_2 (Z : ZC) : ∀ f, enC Z (kd 30) 30 2 f = .inl (zI Z, 1296, .inl (f)) := fun _ => rfl
theorem e1_2 {Z : ZC} {cm : CM} {mm : MM} {lm : LM} : en Z cm mm lm 30 2 = .inl (zI Z, 1296, .inl (cm 30 2)) := rfl
theorem p1_2 : okp 30 2 := by decide
theorem s4_0 (Z : ZC) : ∀ f, enC Z (kd 31) 31 0 f = .inr (4, [.ref (ad Z 31 1)]) := fun _ => rfl
theorem e4_0 {Z : ZC} {cm : CM} {mm : MM} {lm : LM} : en Z cm mm lm 31 0 = .inr (4, [.ref (ad Z 31 1)]) := rfl
theorem p4_0 : okp 31 0 := by decide
theorem s4_1 (Z : ZC) : ∀ f, enC Z (kd 31) 31 1 f = .inl (zI Z, 16, .inl (f)) := fun _ => rfl
theorem e4_1 {Z : ZC} {cm : CM} {mm : MM} {lm : LM} : en Z cm mm lm 31 1 = .inl (zI Z, 16, .inl (cm 31 1)) := rfl
theorem p4_1 : okp 31 1 := by decide
theorem s7_0 (Z : ZC) (lm : LM) : ∀ f, enMo Z 0 f lm = .inr (7, [.ref (ad Z 32 1), .ref (ad Z 32 2), .int (f 2), .int (f 3), .ref (ad Z 32 3), .ref (ad Z 32 4), .ref (ad Z 32 5), .ref (ad Z 32 6), .ref (ad Z 32 7), .ref (ad Z 32 8), .ref (ad Z 32 9), .ref (ad Z 32 10), .ref (ad Z 32 11), .ref (ad Z 32 12), .int (f 14), .ref (ad Z 32 13), .ref (ad Z 32 14), .ref (ad Z 32 15), .ref (ad Z 32 16), .ref (ad Z 32 17), .ref (ad Z 32 18)]) := fun _ => rfl
theorem e7_0 {Z : ZC} {cm : CM} {mm : MM} {lm : LM} : en Z cm mm lm 32 0 = .inr (7, [.ref (ad Z 32 1), .ref (ad Z 32 2), .int (mm 0 2), .int (mm 0 3), .ref (ad Z 32 3), .ref (ad Z 32 4), .ref (ad Z 32 5), .ref (ad Z 32 6), .ref (ad Z 32 7), .ref (ad Z 32 8), .ref (ad Z 32 9), .ref (ad Z 32 10), .ref (ad Z 32 11), .ref (ad Z 32 12), .int (mm 0 14), .ref (ad Z 32 13), .ref (ad Z 32 14), .ref (ad Z 32 15), .ref (ad Z 32 16), .ref (ad Z 32 17), .ref (ad Z 32 18)]) := rfl
theorem p7_0 : okp 32 0 := by decide
theorem s7_1 (Z : ZC) (lm : LM) : ∀ f, enMo Z 1 f lm = .inl (zI Z, 159, .inl (f)) := fun _ => rfl
theorem e7_1 {Z : ZC} {cm : CM} {mm : MM} {lm : LM} : en Z cm mm lm 32 1 = .inl (zI Z, 159, .inl (mm 1)) := rfl
theorem p7_1 : okp 32 1 := by decide
theorem s7_2 (Z : ZC) (lm : LM) : ∀ f, enMo Z 2 f lm = .inl (zI Z, 3816, .inl (f)) := fun _ => rfl
theorem e7_2 {Z : ZC} {cm : CM} {mm : MM} {lm : LM} : en Z cm mm lm 32 2 = .inl (zI Z, 3816, .inl (mm 2)) := rfl
theorem p7_2 : okp 32 2 := by decide
theorem s7_3 (Z : ZC) (lm : LM) : ∀ f, enMo Z 3 f lm = .inl (zI Z, 16, .inl (f)) := fun _ => rfl
theorem e7_3 {Z : ZC} {cm : CM} {mm : MM} {lm : LM} : en Z cm mm lm 32 3 = .inl (zI Z, 16, .inl (mm 3)) := rfl
theorem p7_3 : okp 32 3 := by decide
theorem s7_4 (Z : ZC) (lm : LM) : ∀ f, enMo Z 4 f lm = .inl (zI Z, 4, .inl (f)) := fun _ => rfl
theorem e7_4 {Z : ZC} {cm : CM} {mm : MM} {lm : LM} : en Z cm mm lm 32 4 = .inl (zI Z, 4, .inl (mm 4)) := rfl
theorem p7_4 : okp 32 4 := by decide
theorem s7_5 (Z : ZC) (lm : LM) : ∀ f, enMo Z 5 f lm = .inl (zI Z, 16, .inl (f)) := fun _ => rfl
theorem e7_5 {Z : ZC} {cm : CM} {mm : MM} {lm : LM} : en Z cm mm lm 32 5 = .inl (zI Z, 16, .inl (mm 5)) := rfl
theorem p7_5 : okp 32 5 := by decide
theorem s7_6 (Z : ZC) (lm : LM) : ∀ f, enMo Z 6 f lm = .inl (zI Z, 4, .inl (f)) := fun _ => rfl
theorem e7_6 {Z : ZC} {cm : CM} {mm : MM} {lm : LM} : en Z cm mm lm 32 6 = .inl (zI Z, 4, .inl (mm 6)) := rfl
theorem p7_6 : okp 32 6 := by decide
theorem s7_7 (Z : ZC) (lm : LM) : ∀ f, enMo Z 7 f lm = .inl (zI Z, 4, .inl (f)) := fun _ => rfl
theorem e7_7 {Z : ZC} {cm : CM} {mm : MM} {lm : LM} : en Z cm mm lm 32 7 = .inl (zI Z, 4, .inl (mm 7)) := rfl
theorem p7_7 : okp 32 7 := by decide
theorem s7_8 (Z : ZC) (lm : LM) : ∀ f, enMo Z 8 f lm = .inl (zI Z, 16, .inl (f)) := fun _ => rfl
theorem e7_8 {Z : ZC} {cm : CM} {mm : MM} {lm : LM} : en Z cm mm lm 32 8 = .inl (zI Z, 16, .inl (mm 8)) := rfl
theorem p7_8 : okp 32 8 := by decide
theorem s7_9 (Z : ZC) (lm : LM) : ∀ f, enMo Z 9 f lm = .inl (zI Z, 16, .inl (f)) := fun _ => rfl
theorem e7_9 {Z : ZC} {cm : CM} {mm : MM} {lm : LM} : en Z cm mm lm 32 9 = .inl (zI Z, 16, .inl (mm 9)) := rfl
theorem p7_9 : okp 32 9 := by decide
theorem s7_10 (Z : ZC) (lm : LM) : ∀ f, enMo Z 10 f lm = .inl (zB Z, 16, .inl (f)) := fun _ => rfl
theorem e7_10 {Z : ZC} {cm : CM} {mm : MM} {lm : LM} : en Z cm mm lm 32 10 = .inl (zB Z, 16, .inl (mm 10)) := rfl
theorem p7_10 : okp 32 10 := by decide
theorem s7_11 (Z : ZC) (lm : LM) : ∀ f, enMo Z 11 f lm = .inl (zI Z, 16, .inl (f)) := fun _ => rfl
theorem e7_11 {Z : ZC} {cm : CM} {mm : MM} {lm : LM} : en Z cm mm lm 32 11 = .inl (zI Z, 16, .inl (mm 11)) := rfl
theorem p7_11 : okp 32 11 := by decide
theorem s7_12 (Z : ZC) (lm : LM) : ∀ f, enMo Z 12 f lm = .inl (zB Z, 16, .inl (f)) := fun _ => rfl
theorem e7_12 {Z : ZC} {cm : CM} {mm : MM} {lm : LM} : en Z cm mm lm 32 12 = .inl (zB Z, 16, .inl (mm 12)) := rfl
theorem p7_12 : okp 32 12 := by decide
theorem s7_13 (Z : ZC) (lm : LM) : ∀ f, enMo Z 13 f lm = .inl (zI Z, 16, .inl (f)) := fun _ => rfl
theorem e7_13 {Z : ZC} {cm : CM} {mm : MM} {lm : LM} : en Z cm mm lm 32 13 = .inl (zI Z, 16, .inl (mm 13)) := rfl
theorem p7_13 : okp 32 13 := by decide
theorem s7_14 (Z : ZC) (lm : LM) : ∀ f, enMo Z 14 f lm = .inl (zI Z, 16, .inl (f)) := fun _ => rfl
theorem e7_14 {Z : ZC} {cm : CM} {mm : MM} {lm : LM} : en Z cm mm lm 32 14 = .inl (zI Z, 16, .inl (mm 14)) := rfl
theorem p7_14 : okp 32 14 := by decide
theorem s7_15 (Z : ZC) (lm : LM) : ∀ f, enMo Z 15 f lm = .inl (zI Z, 272, .inl (f)) := fun _ => rfl
theorem e7_15 {Z : ZC} {cm : CM} {mm : MM} {lm : LM} : en Z cm mm lm 32 15 = .inl (zI Z, 272, .inl (mm 15)) := rfl
theorem p7_15 : okp 32 15 := by decide
theorem s7_16 (Z : ZC) (lm : LM) : ∀ f, enMo Z 16 f lm = .inl (zI Z, 4, .inl (f)) := fun _ => rfl
theorem e7_16 {Z : ZC} {cm : CM} {mm : MM} {lm : LM} : en Z cm mm lm 32 16 = .inl (zI Z, 4, .inl (mm 16)) := rfl
theorem p7_16 : okp 32 16 := by decide
theorem s7_17 (Z : ZC) (lm : LM) : ∀ f, enMo Z 17 f lm = .inl (zJ Z, 1296, .inr (.inl lm)) := fun _ => rfl
theorem e7_17 {Z : ZC} {cm : CM} {mm : MM} {lm : LM} : en Z cm mm lm 32 17 = .inl (zJ Z, 1296, .inr (.inl lm)) := rfl
theorem p7_17 : okp 32 17 := by decide
theorem s7_18 (Z : ZC) (lm : LM) : ∀ f, enMo Z 18 f lm = .inl (zI Z, 16, .inl (f)) := fun _ => rfl
theorem e7_18 {Z : ZC} {cm : CM} {mm : MM} {lm : LM} : en Z cm mm lm 32 18 = .inl (zI Z, 16, .inl (mm 18)) := rfl
theorem p7_18 : okp 32 18 := by decide
def isRow (ob pt n : Nat) : Prop := okp ob pt ∧ okp ob (pt + 1) ∧ ob ≠ 32 ∧ (∀ (Z : ZC) f, enC Z (kd ob) ob pt f = .inr (4, [.ref (ad Z ob (pt + 1))])) ∧ ∀ (Z : ZC) f, enC Z (kd ob) ob (pt + 1) f = .inl (zI Z, n, .inl f)
theorem eR_0 {Z : ZC} {cm : CM} {mm : MM} {lm : LM} {ob pt n : Nat} (h : isRow ob pt n) : en Z cm mm lm ob pt = .inr (4, [.ref (ad Z ob (pt + 1))]) := (en_c h.2.2.1).trans (h.2.2.2.1 Z _)
theorem eR_1 {Z : ZC} {cm : CM} {mm : MM} {lm : LM} {ob pt n : Nat} (h : isRow ob pt n) : en Z cm mm lm ob (pt + 1) = .inl (zI Z, n, .inl (cm ob (pt + 1))) := (en_c h.2.2.1).trans (h.2.2.2.2 Z _)
theorem rw0_1 {C : Nat} (h : isCh C) : isRow C 1 16 := ⟨okC h (by decide), okC h (by decide), n32C h, s0_1 h, s0_2 h⟩
theorem rw0_3 {C : Nat} (h : isCh C) : isRow C 3 4 := ⟨okC h (by decide), okC h (by decide), n32C h, s0_3 h, s0_4 h⟩
theorem rw0_5 {C : Nat} (h : isCh C) : isRow C 5 16 := ⟨okC h (by decide), okC h (by decide), n32C h, s0_5 h, s0_6 h⟩
theorem rw0_7 {C : Nat} (h : isCh C) : isRow C 7 4 := ⟨okC h (by decide), okC h (by decide), n32C h, s0_7 h, s0_8 h⟩
theorem rw0_9 {C : Nat} (h : isCh C) : isRow C 9 16 := ⟨okC h (by decide), okC h (by decide), n32C h, s0_9 h, s0_10 h⟩
theorem rw0_11 {C : Nat} (h : isCh C) : isRow C 11 16 := ⟨okC h (by decide), okC h (by decide), n32C h, s0_11 h, s0_12 h⟩
theorem rw0_13 {C : Nat} (h : isCh C) : isRow C 13 16 := ⟨okC h (by decide), okC h (by decide), n32C h, s0_13 h, s0_14 h⟩
theorem rw0_15 {C : Nat} (h : isCh C) : isRow C 15 16 := ⟨okC h (by decide), okC h (by decide), n32C h, s0_15 h, s0_16 h⟩
theorem rw0_19 {C : Nat} (h : isCh C) : isRow C 19 4 := ⟨okC h (by decide), okC h (by decide), n32C h, s0_19 h, s0_20 h⟩
theorem rw1_1 : isRow 30 1 1296 := ⟨p1_1, p1_2, by decide, s1_1, s1_2⟩
theorem rw4_0 : isRow 31 0 16 := ⟨p4_0, p4_1, by decide, s4_0, s4_1⟩
section MaxMin
variable {Z : ZC} {X : XC} {cc : ByteArray} {nL : Nat} {own : String} {R0 : Room} {cm cm' : CM} {mm mm' : MM} {lm lm' : LM} {pc q ob pt : Nat} {lv : List (Option Value)} {st : List Value} {α : Type} {k : α → Prop} {o : Option α}
theorem g_max (hX : Cx Z X cc nL own R0) {idx : Nat} {x y : Int32} (hd : decode cc pc = .ok (.invokestatic idx, 3) ∧ pc + 3 = q) (w1 : Cond.methodLink own idx Lib.Math.max.name ∈ Gt) (w2 : Cond.static Lib.Math.max.name ∈ Gt) (w3 : Cond.initialized "java/lang/Math" ∈ Gt) (w4 : Cond.code Lib.Math.max.name Lib.Math.max.code 2 (some .int) ∈ Gt) (h1 : Nat.ble 1 R0.frames = true) (h2 : Nat.ble 21 R0.locals = true) (hsum : (st.map fun v => v.category).sum ≤ 8)
    (kk : G k o (J Z X nL cm mm lm q lv (.int (if x < y then y else x) :: st))) : G k o (J Z X nL cm mm lm pc lv (.int y :: .int x :: st)) := by
  obtain ⟨hx, hb, hml, hown, hts, hK, rfl, hc, hs, hbz⟩ := hX
  obtain ⟨hd, rfl⟩ := hd
  intro a ha hk H locs ls hP hS hl
  have g1 := Nat.le_of_ble_eq_true h1
  have g2 := Nat.le_of_ble_eq_true h2
  exact va_mmax hx hb (hml.trans hl.1.symm) hown (hts _ w1) (hts _ w2) (hts _ w3) (hts _ w4) g1 (by omega) hc hs hd (kk a ha hk H locs ls hP hS hl)
theorem g_min (hX : Cx Z X cc nL own R0) {idx : Nat} {x y : Int32} (hd : decode cc pc = .ok (.invokestatic idx, 3) ∧ pc + 3 = q) (w1 : Cond.methodLink own idx Lib.Math.min.name ∈ Gt) (w2 : Cond.static Lib.Math.min.name ∈ Gt) (w3 : Cond.initialized "java/lang/Math" ∈ Gt) (w4 : Cond.code Lib.Math.min.name Lib.Math.min.code 2 (some .int) ∈ Gt) (h1 : Nat.ble 1 R0.frames = true) (h2 : Nat.ble 21 R0.locals = true) (hsum : (st.map fun v => v.category).sum ≤ 8)
    (kk : G k o (J Z X nL cm mm lm q lv (.int (if y < x then y else x) :: st))) : G k o (J Z X nL cm mm lm pc lv (.int y :: .int x :: st)) := by
  obtain ⟨hx, hb, hml, hown, hts, hK, rfl, hc, hs, hbz⟩ := hX
  obtain ⟨hd, rfl⟩ := hd
  intro a ha hk H locs ls hP hS hl
  have g1 := Nat.le_of_ble_eq_true h1
  have g2 := Nat.le_of_ble_eq_true h2
  exact va_mmin hx hb (hml.trans hl.1.symm) hown (hts _ w1) (hts _ w2) (hts _ w3) (hts _ w4) g1 (by omega) hc hs hd (kk a ha hk H locs ls hP hS hl)
end MaxMin
