/-! Office.copyFrom and Diary.pageAt -/
section Cp
variable {Z : ZC} {X : XC} {cc : ByteArray} {nL : Nat} {own : String} {R0 : Room} {cm cm' : CM} {mm mm' : MM} {lm lm' : LM} {pc q ob pt : Nat} {lv : List (Option Value)} {st : List Value} {α : Type} {k : α → Prop} {o : Option α}
theorem g_copy (hX : Cx Z X cc nL own R0) {idx o1 o2 : Nat} (h1 : isOf o1) (h2 : isOf o2) (hd : decode cc pc = .ok (.invokestatic idx, 3) ∧ pc + 3 = q) (w1 : Cond.methodLink own idx arraycopyName ∈ Gt) (w2 : Cond.native arraycopyName ∈ Gt) (w3 : Cond.static arraycopyName ∈ Gt) (w4 : Cond.initialized "java/lang/System" ∈ Gt) (hf : 1 ≤ R0.frames) (hlo : (st.map fun v => v.category).sum + (nativeFrameWords "java/lang/System" "arraycopy" 5 + 11) ≤ R0.locals)
    (kk : G k o (J Z X nL (u3 cm o1 1 (va_cpy (cm o2 1) (cm o1 1) 0 0 159)) mm lm q lv st)) : G k o (J Z X nL cm mm lm pc lv (.int 159 :: .int 0 :: .ref (ad Z o1 1) :: .int 0 :: .ref (ad Z o2 1) :: st)) := by
  obtain ⟨hx, hb, hml, hown, hts, hK, rfl, hc, hs, hbz⟩ := hX
  obtain ⟨hd, rfl⟩ := hd
  intro a ha hk H locs ls hP hS hl
  refine va_copyi hx hb (hml.trans hl.1.symm) hown (hts _ w1) (hts _ w2) (hts _ w3) (hts _ w4) hK hP (wl_D Z cm mm lm) hS (bs o2 + 1) (bs o1 + 1) 0 0 (ty := .int) (by rw [wl_get (okO h2 (by decide)), e3_1 h2]) (by rw [wl_get (okO h1 (by decide)), e3_1 h1]) rfl rfl rfl (by decide) (by decide) (by decide) (by decide) (by decide) (fun i _ => rfl) hf hlo hd (fun H1 locs1 hP1 _ hS1 => ?_)
  refine kk a ha hk H1 locs1 ls ?_ hS1 hl
  have := wl_set (Z := Z) (cm := cm) (mm := mm) (lm := lm) (cm' := u3 cm o1 1 (va_cpy (cm o2 1) (cm o1 1) 0 0 159)) (mm' := mm) (lm' := lm) (okO h1 (by decide)) (fun a b h => en_u3 a b h)
  rw [en_u3s (n32O h1), s3_1 h1] at this
  rw [← this]
  exact hP1
theorem g_aald (hX : Cx Z X cc nL own R0) {i : Int32} (hin : vp_in i 24) (hd : decode cc pc = .ok (.aaload, 1) ∧ pc + 1 = q) (kk : G k o (J Z X nL cm mm lm q lv (.ref (ad Z (3 + i.toNatClampNeg) 0) :: st))) : G k o (J Z X nL cm mm lm pc lv (.int i :: .ref (ad Z 2 1) :: st)) := by
  obtain ⟨hx, hb, hml, hown, hts, hK, rfl, hc, hs, hbz⟩ := hX
  obtain ⟨hd, rfl⟩ := hd
  intro a ha hk H locs ls hP hS hl
  exact va_aldq (f := fun i => some (ad Z (3 + i) 0)) (C := "KeptSeats$Office") hx hb hK hP (bs 2 + 1) 3 (by rw [wl_get (by decide), en_c (by decide)]; rfl) rfl hin hd (kk a ha hk H locs ls hP hS hl)
end Cp
theorem ml_3_19 : Cond.methodLink RX3 19 arraycopyName ∈ Gt := gt_at 201 (by decide +kernel) (by decide +kernel)
theorem ac_s : Cond.static arraycopyName ∈ Gt := gt_at 202 (by decide +kernel) (by decide +kernel)
theorem ac_n : Cond.native arraycopyName ∈ Gt := gt_at 203 (by decide +kernel) (by decide +kernel)
theorem ac_i : Cond.initialized "java/lang/System" ∈ Gt := gt_at 10 (by decide +kernel) (by decide +kernel)
def f_X3_copyFrom (cm : CM) (o o2 : Nat) : Option CM := some (u3 cm o 1 (va_cpy (cm o2 1) (cm o 1) 0 0 159))
abbrev rm_X3_copyFrom : Room := { frames := 1, cells := 0, slots := 0, locals := 40 }
theorem c_X3_copyFrom {Z : ZC} {cm : CM} {mm : MM} {lm : LM} {o o2 : Nat} {r : CM} (hO : isOf o) (hO2 : isOf o2) (h : f_X3_copyFrom cm o o2 = some r) : Ct Z yX3_copyFrom cX3_copyFrom 2 none rm_X3_copyFrom [.ref (ad Z o 0), .ref (ad Z o2 0)] cm mm lm none r mm lm := by
  refine Ct_of (own := RX3) [some (.ref (ad Z o 0)), some (.ref (ad Z o2 0))] ⟨by decide, rfl⟩ rfl (Nat.le_of_ble_eq_true rfl) rfl (fun X hX hF => ?_)
  have g : G (fun r : CM => Fx Z X none none r mm lm) (f_X3_copyFrom cm o o2) (J Z X 2 cm mm lm 0 [some (.ref (ad Z o 0)), some (.ref (ad Z o2 0))] []) := by
    unfold f_X3_copyFrom
    refine g_aload_n hX dX3_copyFrom_0 rfl rfl ?_
    refine g_get hX fi_3_9 (okO hO2 (by decide)) (e3_0 hO2) rfl dX3_copyFrom_1 ?_
    refine g_iconst hX dX3_copyFrom_4 ic_0 ?_
    refine g_aload_n hX dX3_copyFrom_5 rfl rfl ?_
    refine g_get hX fi_3_9 (okO hO (by decide)) (e3_0 hO) rfl dX3_copyFrom_6 ?_
    refine g_iconst hX dX3_copyFrom_9 ic_0 ?_
    refine g_sipush hX dX3_copyFrom_10 sp_159 ?_
    refine g_copy hX hO hO2 dX3_copyFrom_13 ml_3_19 ac_n ac_s ac_i (by decide) (by decide) ?_
    exact g_vret hX (fun h => h) dX3_copyFrom_16
  exact g r h hF
def pgv (Z : ZC) (r : Option Nat) : Value := match r with
  | none => .null
  | some i => .ref (ad Z (3 + i) 0)
def f_X2_pageAt (a1 : Int32) : Option (Option Nat) := if a1 < 0 then some none else if 24 ≤ a1 then some none else if a1 < 0 ∨ 24 ≤ a1.toNatClampNeg then none else some (some a1.toNatClampNeg)
theorem pg_lt {a1 : Int32} {i : Nat} (h : f_X2_pageAt a1 = some (some i)) : i < 24 := by
  unfold f_X2_pageAt at h
  split at h
  · cases h
  · split at h
    · cases h
    · split at h
      · cases h
      · rename_i hn
        cases h
        exact Nat.not_le.mp (fun q => hn (Or.inr q))
abbrev rm_X2_pageAt : Room := { frames := 0, cells := 0, slots := 0, locals := 0 }
theorem c_X2_pageAt {Z : ZC} {cm : CM} {mm : MM} {lm : LM} {a1 : Int32} {r : Option Nat} (h : f_X2_pageAt a1 = some r) : Ct Z yX2_pageAt cX2_pageAt 2 (some (.object "KeptSeats$Office")) rm_X2_pageAt [.ref (ad Z 2 0), .int a1] cm mm lm (some (pgv Z r)) cm mm lm := by
  refine Ct_of (own := RX2) [some (.ref (ad Z 2 0)), some (.int a1)] ⟨by decide, rfl⟩ rfl (Nat.le_of_ble_eq_true rfl) rfl (fun X hX hF => ?_)
  have g : G (fun r : Option Nat => Fx Z X (some (.object "KeptSeats$Office")) (some (pgv Z r)) cm mm lm) (f_X2_pageAt a1) (J Z X 2 cm mm lm 0 [some (.ref (ad Z 2 0)), some (.int a1)] []) := by
    unfold f_X2_pageAt
    refine g_iload_n hX dX2_pageAt_0 rfl rfl ?_
    refine g_if_lt hX dX2_pageAt_1 (fun h1 => ?_) (fun h1 => ?_)
    · refine g_null hX dX2_pageAt_22 ?_
      exact g_aret hX (Or.inl rfl) (fun h => h) dX2_pageAt_23
    · refine g_iload_n hX dX2_pageAt_4 rfl rfl ?_
      refine g_aload_n hX dX2_pageAt_5 rfl rfl ?_
      refine g_get hX fi_2_11 p2_0 e2_0 rfl dX2_pageAt_6 ?_
      refine g_alenO hX dX2_pageAt_9 ?_
      refine g_icmp_ge hX dX2_pageAt_10 (fun h10 => ?_) (fun h10 => ?_)
      · refine g_null hX dX2_pageAt_22 ?_
        exact g_aret hX (Or.inl rfl) (fun h => h) dX2_pageAt_23
      · refine g_if (fun hn => ?_) (fun hn => ?_)
        · intro a ha; cases ha
        · refine g_aload_n hX dX2_pageAt_13 rfl rfl ?_
          refine g_get hX fi_2_11 p2_0 e2_0 rfl dX2_pageAt_14 ?_
          refine g_iload_n hX dX2_pageAt_17 rfl rfl ?_
          refine g_aald hX hn dX2_pageAt_18 ?_
          refine g_goto hX dX2_pageAt_19 ?_
          exact g_aret hX (Or.inr ⟨_, rfl⟩) (fun h => h) dX2_pageAt_23
  exact g r h hF
