/-! rows that read and write the world, calls and ends -/
def rd (n : Nat) (f : Nat → Int32) (i : Int32) : Option Int32 := if i < 0 ∨ n ≤ i.toNatClampNeg then none else some (f i.toNatClampNeg)
def wr (n : Nat) (f : Nat → Int32) (i : Int32) (x : Int32) : Option (Nat → Int32) := if i < 0 ∨ n ≤ i.toNatClampNeg then none else some (upd f i.toNatClampNeg x)
def rdL (n : Nat) (f : LM) (i : Int32) : Option Int64 := if i < 0 ∨ n ≤ i.toNatClampNeg then none else some (f i.toNatClampNeg)
def wrL (n : Nat) (f : LM) (i : Int32) (x : Int64) : Option LM := if i < 0 ∨ n ≤ i.toNatClampNeg then none else some (vp_updL f i.toNatClampNeg x)
def dvI (x y : Int32) : Option Int32 := if y = 0 then none else some (x / y)
def rmI (x y : Int32) : Option Int32 := if y = 0 then none else some (x - x / y * y)
theorem rd_some {n : Nat} {f : Nat → Int32} {i x : Int32} (h : rd n f i = some x) : vp_in i n ∧ f i.toNatClampNeg = x := by
  unfold rd at h
  split at h
  · cases h
  · rename_i hi; exact ⟨hi, Option.some.inj h⟩
theorem wr_some {n : Nat} {f g : Nat → Int32} {i x : Int32} (h : wr n f i x = some g) : vp_in i n ∧ upd f i.toNatClampNeg x = g := by
  unfold wr at h
  split at h
  · cases h
  · rename_i hi; exact ⟨hi, Option.some.inj h⟩
theorem rdL_some {n : Nat} {f : LM} {i : Int32} {x : Int64} (h : rdL n f i = some x) : vp_in i n ∧ f i.toNatClampNeg = x := by
  unfold rdL at h
  split at h
  · cases h
  · rename_i hi; exact ⟨hi, Option.some.inj h⟩
theorem wrL_some {n : Nat} {f g : LM} {i : Int32} {x : Int64} (h : wrL n f i x = some g) : vp_in i n ∧ vp_updL f i.toNatClampNeg x = g := by
  unfold wrL at h
  split at h
  · cases h
  · rename_i hi; exact ⟨hi, Option.some.inj h⟩
/-- a field that an instruction names -/
def FI (own : String) (idx ci : Nat) (C : String) (T : u_T) (N j : Nat) : Prop := vwCl[ci]? = some (C, T, N) ∧ j < N ∧ Cond.fieldLink own idx (T j).1 (T j).2.1 (T j).2.2.1 ∈ Gt ∧ ∀ w ∈ u_ws C T N, w ∈ Gt
section Heap
variable {Z : ZC} {X : XC} {cc : ByteArray} {nL : Nat} {own : String} {R0 : Room} {cm cm' : CM} {mm mm' : MM} {lm lm' : LM} {pc q ob pt : Nat} {lv : List (Option Value)} {st : List Value} {α : Type} {k : α → Prop} {o : Option α}
theorem g_get (hX : Cx Z X cc nL own R0) {idx ci N j : Nat} {C : String} {T : u_T} {fs : List Value} {v : Value} (hf : FI own idx ci C T N j) (hp : okp ob pt) (he : en Z cm mm lm ob pt = .inr (ci, fs)) (hv : fs[j]? = some v) (hd : decode cc pc = .ok (.getfield idx, 3) ∧ pc + 3 = q) (kk : G k o (J Z X nL cm mm lm q lv (v :: st))) : G k o (J Z X nL cm mm lm pc lv (.ref (ad Z ob pt) :: st)) := by
  obtain ⟨hx, hb, hml, hown, hts, hK, rfl, hc, hs, hbz⟩ := hX
  obtain ⟨hd, rfl⟩ := hd
  obtain ⟨f1, f2, f3, f4⟩ := hf
  intro a ha hk H locs ls hP hS hl
  exact va_get hx hb hts f4 hown hK hP (bs ob + pt) (by rw [wl_get hp, he]) f1 j f2 (hts _ f3) (fun _ h => h) hv hd (kk a ha hk H locs ls hP hS hl)
theorem g_putC (hX : Cx Z X cc nL own R0) {idx ci N j : Nat} {C : String} {T : u_T} {F : (Nat → Int32) → List Value} {x : Int32} {ty : FieldType} {ty0 : Nat → FieldType} (hf : FI own idx ci C T N j) (hp : okp ob pt) (h32 : ob ≠ 32) (he : ∀ f, enC Z (kd ob) ob pt f = .inr (ci, F f)) (hset : (F (cm ob pt)).set j (.int x) = F (upd (cm ob pt) j x)) (hlen : j < (F (cm ob pt)).length)
    (hty : ∀ k, k < N → parseFieldDescriptor (T k).2.2.1 = some (ty0 k)) (hnm : ∀ a, a < N → ∀ b, b < N → a ≠ b → (T a).2.1 ≠ (T b).2.1) (hfin : (T j).2.2.2 = false) (htj : ty0 j = ty) (hn : narrow ty (.int x) = .int x) (hfit : fits ty (.int x) = true)
    (hd : decode cc pc = .ok (.putfield idx, 3) ∧ pc + 3 = q) (kk : G k o (J Z X nL (u3 cm ob pt (upd (cm ob pt) j x)) mm lm q lv st)) : G k o (J Z X nL cm mm lm pc lv (.int x :: .ref (ad Z ob pt) :: st)) := by
  obtain ⟨hx, hb, hml, hown, hts, hK, rfl, hc, hs, hbz⟩ := hX
  obtain ⟨hd, rfl⟩ := hd
  obtain ⟨f1, f2, f3, f4⟩ := hf
  intro a ha hk H locs ls hP hS hl
  have hw : (wl Z cm mm lm)[bs ob + pt]? = some (ad Z ob pt, .inr (ci, F (cm ob pt))) := by rw [wl_get hp, en_c h32, he]
  refine va_put (ty := ty) hx hb hts f4 ty0 hty hnm hown hK hP (wl_D Z cm mm lm) hS (bs ob + pt) hw f1 j f2 (hts _ f3) (fun _ h => h) hfin (by rw [← htj]; exact hty j f2) hn hfit hlen hd (fun H1 locs1 hP1 _ hS1 => ?_)
  refine kk a ha hk H1 locs1 ls ?_ hS1 hl
  have := wl_set (Z := Z) (cm := cm) (mm := mm) (lm := lm) (cm' := u3 cm ob pt (upd (cm ob pt) j x)) (mm' := mm) (lm' := lm) hp (fun a b h => en_u3 a b h)
  rw [en_u3s h32, he] at this
  rw [← this, ← hset]
  exact hP1
theorem g_putM (hX : Cx Z X cc nL own R0) {idx j : Nat} {F : (Nat → Int32) → List Value} {x : Int32} (hf : FI own idx 7 RX7 TX7 21 j) (he : ∀ f, enMo Z 0 f lm = .inr (7, F f)) (hset : (F (mm 0)).set j (.int x) = F (upd (mm 0) j x)) (hlen : j < (F (mm 0)).length)
    (hfin : (TX7 j).2.2.2 = false) (htj : tyX7 j = .int)
    (hd : decode cc pc = .ok (.putfield idx, 3) ∧ pc + 3 = q) (kk : G k o (J Z X nL cm (u2 mm 0 (upd (mm 0) j x)) lm q lv st)) : G k o (J Z X nL cm mm lm pc lv (.int x :: .ref (ad Z 32 0) :: st)) := by
  obtain ⟨hx, hb, hml, hown, hts, hK, rfl, hc, hs, hbz⟩ := hX
  obtain ⟨hd, rfl⟩ := hd
  obtain ⟨f1, f2, f3, f4⟩ := hf
  intro a ha hk H locs ls hP hS hl
  have hp : okp 32 0 := by decide
  have hw : (wl Z cm mm lm)[bs 32 + 0]? = some (ad Z 32 0, .inr (7, F (mm 0))) := by rw [wl_get hp, en_m, he]
  refine va_put (ty := .int) hx hb hts f4 tyX7 tyX7_ok nmX7 hown hK hP (wl_D Z cm mm lm) hS (bs 32 + 0) hw f1 j f2 (hts _ f3) (fun _ h => h) hfin (by rw [← htj]; exact tyX7_ok j f2) rfl rfl hlen hd (fun H1 locs1 hP1 _ hS1 => ?_)
  refine kk a ha hk H1 locs1 ls ?_ hS1 hl
  have := wl_set (Z := Z) (cm := cm) (mm := mm) (lm := lm) (cm' := cm) (mm' := u2 mm 0 (upd (mm 0) j x)) (lm' := lm) hp (fun a b h => en_u2 a b h)
  rw [en_u2s, he] at this
  rw [← this, ← hset]
  exact hP1
theorem g_alen (hX : Cx Z X cc nL own R0) {n : Nat} {v : Int32} {f : Nat → Int32} (hp : okp ob pt) (he : en Z cm mm lm ob pt = .inl (zI Z, n, .inl f)) (hv : Int32.ofNat n = v) (hd : decode cc pc = .ok (.arraylength, 1) ∧ pc + 1 = q) (kk : G k o (J Z X nL cm mm lm q lv (.int v :: st))) : G k o (J Z X nL cm mm lm pc lv (.ref (ad Z ob pt) :: st)) := by
  obtain ⟨hx, hb, hml, hown, hts, hK, rfl, hc, hs, hbz⟩ := hX
  obtain ⟨hd, rfl⟩ := hd
  intro a ha hk H locs ls hP hS hl
  exact va_alen hx hb hK hP (bs ob + pt) 0 (by rw [wl_get hp, he]) rfl hv hd (kk a ha hk H locs ls hP hS hl)
theorem g_alenO (hX : Cx Z X cc nL own R0) (hd : decode cc pc = .ok (.arraylength, 1) ∧ pc + 1 = q) (kk : G k o (J Z X nL cm mm lm q lv (.int 24 :: st))) : G k o (J Z X nL cm mm lm pc lv (.ref (ad Z 2 1) :: st)) := by
  obtain ⟨hx, hb, hml, hown, hts, hK, rfl, hc, hs, hbz⟩ := hX
  obtain ⟨hd, rfl⟩ := hd
  intro a ha hk H locs ls hP hS hl
  exact va_alen (ty := .object "KeptSeats$Office") hx hb hK hP (bs 2 + 1) 3 (by rw [wl_get (by decide), en_c (by decide)]; rfl) rfl rfl hd (kk a ha hk H locs ls hP hS hl)
theorem g_iald (hX : Cx Z X cc nL own R0) {n : Nat} {i : Int32} {f : Nat → Int32} {K : Int32 → Option α} (hp : okp ob pt) (he : en Z cm mm lm ob pt = .inl (zI Z, n, .inl f)) (hd : decode cc pc = .ok (.iaload, 1) ∧ pc + 1 = q) (kk : ∀ x, rd n f i = some x → G k (K x) (J Z X nL cm mm lm q lv (.int x :: st))) : G k ((rd n f i).bind K) (J Z X nL cm mm lm pc lv (.int i :: .ref (ad Z ob pt) :: st)) := by
  obtain ⟨hx, hb, hml, hown, hts, hK, rfl, hc, hs, hbz⟩ := hX
  obtain ⟨hd, rfl⟩ := hd
  intro a ha hk H locs ls hP hS hl
  obtain ⟨x, hv, ha⟩ := Option.bind_eq_some_iff.mp ha
  obtain ⟨h1, h2⟩ := rd_some hv
  subst h2
  exact va_iald hx hb hK hP (bs ob + pt) 0 (by rw [wl_get hp, he]) rfl h1 hd (kk _ hv a ha hk H locs ls hP hS hl)
theorem g_zald (hX : Cx Z X cc nL own R0) {n : Nat} {i : Int32} {f : Nat → Int32} {K : Int32 → Option α} (hp : okp ob pt) (he : en Z cm mm lm ob pt = .inl (zB Z, n, .inl f)) (hd : decode cc pc = .ok (.baload, 1) ∧ pc + 1 = q) (kk : ∀ x, rd n f i = some x → G k (K x) (J Z X nL cm mm lm q lv (.int x :: st))) : G k ((rd n f i).bind K) (J Z X nL cm mm lm pc lv (.int i :: .ref (ad Z ob pt) :: st)) := by
  obtain ⟨hx, hb, hml, hown, hts, hK, rfl, hc, hs, hbz⟩ := hX
  obtain ⟨hd, rfl⟩ := hd
  intro a ha hk H locs ls hP hS hl
  obtain ⟨x, hv, ha⟩ := Option.bind_eq_some_iff.mp ha
  obtain ⟨h1, h2⟩ := rd_some hv
  subst h2
  exact va_zald hx hb hK hP (bs ob + pt) 2 (by rw [wl_get hp, he]) rfl h1 hd (kk _ hv a ha hk H locs ls hP hS hl)
theorem g_lald (hX : Cx Z X cc nL own R0) {i : Int32} {K : Int64 → Option α} (hd : decode cc pc = .ok (.laload, 1) ∧ pc + 1 = q) (kk : ∀ x, rdL 1296 lm i = some x → G k (K x) (J Z X nL cm mm lm q lv (.long x :: st))) : G k ((rdL 1296 lm i).bind K) (J Z X nL cm mm lm pc lv (.int i :: .ref (ad Z 32 17) :: st)) := by
  obtain ⟨hx, hb, hml, hown, hts, hK, rfl, hc, hs, hbz⟩ := hX
  obtain ⟨hd, rfl⟩ := hd
  intro a ha hk H locs ls hP hS hl
  obtain ⟨x, hv, ha⟩ := Option.bind_eq_some_iff.mp ha
  obtain ⟨h1, h2⟩ := rdL_some hv
  subst h2
  exact va_lald hx hb hK hP (bs 32 + 17) 1 (by rw [wl_get (by decide), en_m]; rfl) rfl h1 hd (kk _ hv a ha hk H locs ls hP hS hl)
theorem g_last (hX : Cx Z X cc nL own R0) {i : Int32} {x : Int64} {K : LM → Option α} (hd : decode cc pc = .ok (.lastore, 1) ∧ pc + 1 = q) (kk : ∀ g, wrL 1296 lm i x = some g → G k (K g) (J Z X nL cm mm g q lv st)) : G k ((wrL 1296 lm i x).bind K) (J Z X nL cm mm lm pc lv (.long x :: .int i :: .ref (ad Z 32 17) :: st)) := by
  obtain ⟨hx, hb, hml, hown, hts, hK, rfl, hc, hs, hbz⟩ := hX
  obtain ⟨hd, rfl⟩ := hd
  intro a ha hk H locs ls hP hS hl
  obtain ⟨g, hv, ha⟩ := Option.bind_eq_some_iff.mp ha
  obtain ⟨h1, h2⟩ := wrL_some hv
  subst h2
  have hp : okp 32 17 := by decide
  refine va_last hx hb hK hP (wl_D Z cm mm lm) hS (bs 32 + 17) 1 (by rw [wl_get hp, en_m]; rfl) rfl h1 hd (fun H1 locs1 hP1 _ hS1 => ?_)
  refine kk _ hv a ha hk H1 locs1 ls ?_ hS1 hl
  have := wl_set (Z := Z) (cm := cm) (mm := mm) (lm := lm) (cm' := cm) (mm' := mm) (lm' := vp_updL lm i.toNatClampNeg x) hp (fun a b h => en_ul a b h)
  rw [en_m] at this
  rw [← this]
  exact hP1
theorem g_iastC (hX : Cx Z X cc nL own R0) {n : Nat} {i x : Int32} {K : (Nat → Int32) → Option α} (hp : okp ob pt) (h32 : ob ≠ 32) (he : ∀ f, enC Z (kd ob) ob pt f = .inl (zI Z, n, .inl f)) (hd : decode cc pc = .ok (.iastore, 1) ∧ pc + 1 = q) (kk : ∀ g, wr n (cm ob pt) i x = some g → G k (K g) (J Z X nL (u3 cm ob pt g) mm lm q lv st)) : G k ((wr n (cm ob pt) i x).bind K) (J Z X nL cm mm lm pc lv (.int x :: .int i :: .ref (ad Z ob pt) :: st)) := by
  obtain ⟨hx, hb, hml, hown, hts, hK, rfl, hc, hs, hbz⟩ := hX
  obtain ⟨hd, rfl⟩ := hd
  intro a ha hk H locs ls hP hS hl
  obtain ⟨g, hv, ha⟩ := Option.bind_eq_some_iff.mp ha
  obtain ⟨h1, h2⟩ := wr_some hv
  subst h2
  refine va_iast hx hb hK hP (wl_D Z cm mm lm) hS (bs ob + pt) 0 (by rw [wl_get hp, en_c h32, he]) rfl h1 hd (fun H1 locs1 hP1 _ hS1 => ?_)
  refine kk _ hv a ha hk H1 locs1 ls ?_ hS1 hl
  have := wl_set (Z := Z) (cm := cm) (mm := mm) (lm := lm) (cm' := u3 cm ob pt (upd (cm ob pt) i.toNatClampNeg x)) (mm' := mm) (lm' := lm) hp (fun a b h => en_u3 a b h)
  rw [en_u3s h32, he] at this
  rw [← this]
  exact hP1
theorem g_iastM (hX : Cx Z X cc nL own R0) {n : Nat} {i x : Int32} {K : (Nat → Int32) → Option α} (hp : okp 32 pt) (he : ∀ f, enMo Z pt f lm = .inl (zI Z, n, .inl f)) (hd : decode cc pc = .ok (.iastore, 1) ∧ pc + 1 = q) (kk : ∀ g, wr n (mm pt) i x = some g → G k (K g) (J Z X nL cm (u2 mm pt g) lm q lv st)) : G k ((wr n (mm pt) i x).bind K) (J Z X nL cm mm lm pc lv (.int x :: .int i :: .ref (ad Z 32 pt) :: st)) := by
  obtain ⟨hx, hb, hml, hown, hts, hK, rfl, hc, hs, hbz⟩ := hX
  obtain ⟨hd, rfl⟩ := hd
  intro a ha hk H locs ls hP hS hl
  obtain ⟨g, hv, ha⟩ := Option.bind_eq_some_iff.mp ha
  obtain ⟨h1, h2⟩ := wr_some hv
  subst h2
  refine va_iast hx hb hK hP (wl_D Z cm mm lm) hS (bs 32 + pt) 0 (by rw [wl_get hp, en_m, he]) rfl h1 hd (fun H1 locs1 hP1 _ hS1 => ?_)
  refine kk _ hv a ha hk H1 locs1 ls ?_ hS1 hl
  have := wl_set (Z := Z) (cm := cm) (mm := mm) (lm := lm) (cm' := cm) (mm' := u2 mm pt (upd (mm pt) i.toNatClampNeg x)) (lm' := lm) hp (fun a b h => en_u2 a b h)
  rw [en_u2s, he] at this
  rw [← this]
  exact hP1
theorem g_zastM (hX : Cx Z X cc nL own R0) {n : Nat} {i x : Int32} {K : (Nat → Int32) → Option α} (hp : okp 32 pt) (he : ∀ f, enMo Z pt f lm = .inl (zB Z, n, .inl f)) (hnb : vp_nar .boolean x = x) (hd : decode cc pc = .ok (.bastore, 1) ∧ pc + 1 = q) (kk : ∀ g, wr n (mm pt) i x = some g → G k (K g) (J Z X nL cm (u2 mm pt g) lm q lv st)) : G k ((wr n (mm pt) i x).bind K) (J Z X nL cm mm lm pc lv (.int x :: .int i :: .ref (ad Z 32 pt) :: st)) := by
  obtain ⟨hx, hb, hml, hown, hts, hK, rfl, hc, hs, hbz⟩ := hX
  obtain ⟨hd, rfl⟩ := hd
  intro a ha hk H locs ls hP hS hl
  obtain ⟨g, hv, ha⟩ := Option.bind_eq_some_iff.mp ha
  obtain ⟨h1, h2⟩ := wr_some hv
  subst h2
  refine va_zast hx hb hK hP (wl_D Z cm mm lm) hS (bs 32 + pt) 2 (by rw [wl_get hp, en_m, he]) rfl h1 hd (fun H1 locs1 hP1 _ hS1 => ?_)
  refine kk _ hv a ha hk H1 locs1 ls ?_ hS1 hl
  have := wl_set (Z := Z) (cm := cm) (mm := mm) (lm := lm) (cm' := cm) (mm' := u2 mm pt (upd (mm pt) i.toNatClampNeg x)) (lm' := lm) hp (fun a b h => en_u2 a b h)
  rw [en_u2s, he] at this
  rw [← this, ← hnb]
  rw [hnb] at hP1 ⊢
  exact hP1
theorem g_idiv' (hX : Cx Z X cc nL own R0) {x y : Int32} {K : Int32 → Option α} (hd : decode cc pc = .ok (.idiv, 1) ∧ pc + 1 = q) (kk : ∀ v, dvI x y = some v → G k (K v) (J Z X nL cm mm lm q lv (.int v :: st))) : G k ((dvI x y).bind K) (J Z X nL cm mm lm pc lv (.int y :: .int x :: st)) := by
  intro a ha hk
  obtain ⟨v, hv, ha⟩ := Option.bind_eq_some_iff.mp ha
  have h2 := hv
  unfold dvI at h2
  split at h2
  · cases h2
  · rename_i h0
    cases h2
    exact g_idiv hX hd h0 (kk _ hv) a ha hk
theorem g_irem' (hX : Cx Z X cc nL own R0) {x y : Int32} {K : Int32 → Option α} (hd : decode cc pc = .ok (.irem, 1) ∧ pc + 1 = q) (kk : ∀ v, rmI x y = some v → G k (K v) (J Z X nL cm mm lm q lv (.int v :: st))) : G k ((rmI x y).bind K) (J Z X nL cm mm lm pc lv (.int y :: .int x :: st)) := by
  intro a ha hk
  obtain ⟨v, hv, ha⟩ := Option.bind_eq_some_iff.mp ha
  have h2 := hv
  unfold rmI at h2
  split at h2
  · cases h2
  · rename_i h0
    cases h2
    exact g_irem hX hd h0 (kk _ hv) a ha hk
/-- ends -/
theorem g_iret (hX : Cx Z X cc nL own R0) {a : α} {v : Int32} (hF : k a → Fx Z X (some .int) (some (.int v)) cm mm lm) (hd : decode cc pc = .ok (.ireturn, 1) ∧ pc + 1 = q) : G k (some a) (J Z X nL cm mm lm pc lv [.int v]) := by
  intro a' ha hk H locs ls hP hS hl
  cases ha
  obtain ⟨hx, hb, hml, hown, hts, hK, rfl, hc, hs, hbz⟩ := hX
  obtain ⟨r1, r2, r3⟩ := hF hk
  rw [r3]
  exact W.iret hx hb r1 (fun t ht hW => ⟨rfl, by rw [ht]; exact hP, va_K.moved hW.alike hK, hS.F ht⟩) hS.2.2 hd.1 r2
theorem g_zret (hX : Cx Z X cc nL own R0) {a : α} {v : Int32} (hn : narrow .boolean (.int v) = .int v) (hF : k a → Fx Z X (some .boolean) (some (.int v)) cm mm lm) (hd : decode cc pc = .ok (.ireturn, 1) ∧ pc + 1 = q) : G k (some a) (J Z X nL cm mm lm pc lv [.int v]) := by
  intro a' ha hk H locs ls hP hS hl
  cases ha
  obtain ⟨hx, hb, hml, hown, hts, hK, rfl, hc, hs, hbz⟩ := hX
  obtain ⟨r1, r2, r3⟩ := hF hk
  rw [r3]
  exact W.zret hx hb r1 hn (fun t ht hW => ⟨rfl, by rw [ht]; exact hP, va_K.moved hW.alike hK, hS.F ht⟩) hS.2.2 hd.1 r2
theorem g_lret (hX : Cx Z X cc nL own R0) {a : α} {v : Int64} (hF : k a → Fx Z X (some .long) (some (.long v)) cm mm lm) (hd : decode cc pc = .ok (.lreturn, 1) ∧ pc + 1 = q) : G k (some a) (J Z X nL cm mm lm pc lv [.long v]) := by
  intro a' ha hk H locs ls hP hS hl
  cases ha
  obtain ⟨hx, hb, hml, hown, hts, hK, rfl, hc, hs, hbz⟩ := hX
  obtain ⟨r1, r2, r3⟩ := hF hk
  rw [r3]
  exact W.lret hx hb r1 (fun t ht hW => ⟨rfl, by rw [ht]; exact hP, va_K.moved hW.alike hK, hS.F ht⟩) hS.2.2 hd.1 r2
theorem g_vret (hX : Cx Z X cc nL own R0) {a : α} (hF : k a → Fx Z X none none cm mm lm) (hd : decode cc pc = .ok (.return_, 1) ∧ pc + 1 = q) : G k (some a) (J Z X nL cm mm lm pc lv []) := by
  intro a' ha hk H locs ls hP hS hl
  cases ha
  obtain ⟨hx, hb, hml, hown, hts, hK, rfl, hc, hs, hbz⟩ := hX
  obtain ⟨r1, r2, r3⟩ := hF hk
  rw [r3]
  exact W.vret hx hb r1 (fun t ht hW => ⟨rfl, by rw [ht]; exact hP, va_K.moved hW.alike hK, hS.F ht⟩) hS.2.2 hd.1 r2
theorem g_aret (hX : Cx Z X cc nL own R0) {a : α} {v : Value} {C : String} (hv : v = .null ∨ ∃ a, v = .ref a) (hF : k a → Fx Z X (some (.object C)) (some v) cm mm lm) (hd : decode cc pc = .ok (.areturn, 1) ∧ pc + 1 = q) : G k (some a) (J Z X nL cm mm lm pc lv [v]) := by
  intro a' ha hk H locs ls hP hS hl
  cases ha
  obtain ⟨hx, hb, hml, hown, hts, hK, rfl, hc, hs, hbz⟩ := hX
  obtain ⟨r1, r2, r3⟩ := hF hk
  rw [r3]
  exact W.aret hx hb r1 (Or.inl ⟨_, rfl⟩) hv (fun t ht hW => ⟨rfl, by rw [ht]; exact hP, va_K.moved hW.alike hK, hS.F ht⟩) hS.2.2 hd.1 r2
/-- a method as the tables have it -/
def MI (y : MethodName) (cc : ByteArray) (maxL : Nat) (ret : Option FieldType) (n : Nat) : Prop := Cond.code y cc maxL ret ∈ Gt ∧ Cond.instanceMethod y ∈ Gt ∧ Cond.selects y.cls y y ∈ Gt ∧ Cond.initialized y.cls ∈ Gt ∧ y.cls ≠ "java/lang/invoke/MethodHandle" ∧ y.cls ≠ "java/lang/invoke/VarHandle" ∧ (parseMethodDescriptor y.desc).map (fun d => d.parameters.length) = some n
def MS (y : MethodName) (cc : ByteArray) (maxL : Nat) (ret : Option FieldType) (n : Nat) : Prop := Cond.code y cc maxL ret ∈ Gt ∧ Cond.static y ∈ Gt ∧ Cond.initialized y.cls ∈ Gt ∧ y.cls ≠ "java/lang/invoke/MethodHandle" ∧ y.cls ≠ "java/lang/invoke/VarHandle" ∧ (parseMethodDescriptor y.desc).map (fun d => d.parameters.length) = some n
def rmOk (rm R0 : Room) (maxL : Nat) : Bool := (rm.frames + 1).ble R0.frames && (8 + (maxL + 11) + rm.locals).ble R0.locals && rm.cells == 0 && rm.slots == 0
theorem rmOk_spec {rm R0 : Room} {maxL : Nat} (h : rmOk rm R0 maxL = true) : rm.frames + 1 ≤ R0.frames ∧ 8 + (maxL + 11) + rm.locals ≤ R0.locals ∧ rm.cells = 0 ∧ rm.slots = 0 := by
  unfold rmOk at h
  simp only [Bool.and_eq_true, beq_iff_eq] at h
  exact ⟨Nat.le_of_ble_eq_true h.1.1.1, Nat.le_of_ble_eq_true h.1.1.2, h.1.2, h.2⟩
theorem runJ {p : Program} {e : Env} {R : Room} {s : State} {m : MethodId} {args : Array Value} {below : List Frame} {meth : Method} {c : Code} {H : Heap} {locs : List Loc} {cells slots : Nat} {Q : State → Prop} {ls : Array Slot} {st0 rest : List Value} {rv : Option Value} {av : Array Value} (hr : va_Run p (zl Z) e R s m args below meth c H locs cells slots 0 0 (F0 m pc ls st0) rest (Qm Z rv cm' mm' lm' av) (fun q => zb Z ≤ q)) (hS : va_S (fun q => zb Z ≤ q) s.heap H locs)
    (kk : ∀ (H1 : Heap) (locs1 : List Loc), va_P (zD Z) vwCl (wl Z cm' mm' lm') H1 → va_S (fun q => zb Z ≤ q) s.heap H1 locs1 → W p (zl Z) e R s m args below meth c H1 locs1 cells slots Q (F0 m (pc + 3) ls (rv.toList ++ rest))) : W p (zl Z) e R s m args below meth c H locs cells slots Q (F0 m pc ls st0) := by
  intro T hT X
  obtain ⟨v, st₀, t, T', L, h0, X', hL, e1, e2, ⟨hv, hP, hK, hz, hk⟩, go⟩ := hr T hT X
  cases hv
  rw [h0] at hz hk
  obtain ⟨t2, a1, b1⟩ := kk T'.heap (locs ++ L) (by rw [e1]; exact hP)
    ⟨Nat.le_trans hS.1 (by rw [e1]; exact hz), fun q h1 h2 => by rw [e1, hk q (Nat.lt_of_lt_of_le h1 hS.1) h2]; exact hS.2.1 q h1 h2, fun q hq => by
      rcases List.mem_append.mp hq with h | h
      · exact hS.2.2 q h
      · exact hL q h⟩ T' rfl X'
  exact ⟨t2, go t2 a1, b1⟩
theorem g_callV {β : Type} (hX : Cx Z X cc nL own R0) {y : MethodName} {cy : ByteArray} {maxL n idx ci N : Nat} {ret : Option FieldType} {rm : Room} {C : String} {T : u_T} {fs : List Value} {As st0 : List Value} {ov : Option β} {K : β → Option α} (rv : β → Option Value) (cm' : β → CM) (mm' : β → MM) (lm' : β → LM)
    (hM : ∀ r, ov = some r → Ct Z y cy maxL ret rm (.ref (ad Z ob pt) :: As) cm mm lm (rv r) (cm' r) (mm' r) (lm' r)) (mi : MI y cy maxL ret n) (ml : Cond.methodLink own idx y ∈ Gt) (hp : okp ob pt) (he : en Z cm mm lm ob pt = .inr (ci, fs)) (hC : vwCl[ci]? = some (C, T, N)) (hyc : y.cls = C) (hn : As.length = n) (hrm : rmOk rm R0 maxL = true) (hst : st0 = As.reverse ++ .ref (ad Z ob pt) :: st) (hsum : (st.map fun v => v.category).sum ≤ 8)
    (hd : decode cc pc = .ok (.invokevirtual idx, 3) ∧ pc + 3 = q) (kk : ∀ r, ov = some r → G k (K r) (J Z X nL (cm' r) (mm' r) (lm' r) q lv ((rv r).toList ++ st))) : G k (ov.bind K) (J Z X nL cm mm lm pc lv st0) := by
  obtain ⟨hx, hb, hml, hown, hts, hK, hR, hc, hs, hbz⟩ := hX
  obtain ⟨hd, rfl⟩ := hd
  intro a ha hk H locs ls hP hS hl
  obtain ⟨r, hv, ha⟩ := Option.bind_eq_some_iff.mp ha
  obtain ⟨r1, r2, r3, r4⟩ := rmOk_spec hrm
  obtain ⟨m1, m2, m3, m4, m5, m6, m7⟩ := mi
  rw [← hR] at r1 r2 hc hs
  have cw : CallW X.2.2.1 X.2.2.2.1 X.2.2.2.2.2.1 own C idx y cy maxL ret (Cond.code y cy maxL ret :: Gt) rm 0 0 n := by
    refine ⟨callB_of n hts (gt_good m1 (fun _ h => h)) rfl r3 r4 (hts _ m4) (hts _ ml) ⟨m5, m6, m7⟩ ⟨r1, r2⟩, hts _ m2, ?_⟩
    rw [← hyc]
    exact hts _ m3
  have hw : (wl Z cm mm lm)[bs ob + pt]? = some (ad Z ob pt, .inr (ci, fs)) := by rw [wl_get hp, he]
  refine runJ (va_runV (As := As) (rest := st) ⟨hx, hb, hml, hown, hts⟩ (hM r hv) cw ⟨Pm_blind Z _ cm mm lm, va_recv hK hP hC hw, fun U hU hW => ⟨rfl, by rw [hU]; exact hP, va_K.moved hW.alike hK, by rw [hU]; exact Nat.le_trans hbz.1 hS.1, hbz.2.warm hW⟩⟩ rfl hn hl.1 hst (lv_room hsum) hd ⟨hc, hs⟩) hS (fun H1 locs1 hP1 hS1 => kk r hv a ha hk H1 locs1 ls hP1 hS1 hl)
theorem g_callS {β : Type} (hX : Cx Z X cc nL own R0) {y : MethodName} {cy : ByteArray} {maxL n idx : Nat} {ret : Option FieldType} {rm : Room} {As st0 : List Value} {ov : Option β} {K : β → Option α} (rv : β → Option Value) (cm' : β → CM) (mm' : β → MM) (lm' : β → LM)
    (hM : ∀ r, ov = some r → Ct Z y cy maxL ret rm As cm mm lm (rv r) (cm' r) (mm' r) (lm' r)) (mi : MS y cy maxL ret n) (ml : Cond.methodLink own idx y ∈ Gt) (hn : As.length = n) (hrm : rmOk rm R0 maxL = true) (hst : st0 = As.reverse ++ st) (hsum : (st.map fun v => v.category).sum ≤ 8)
    (hd : decode cc pc = .ok (.invokestatic idx, 3) ∧ pc + 3 = q) (kk : ∀ r, ov = some r → G k (K r) (J Z X nL (cm' r) (mm' r) (lm' r) q lv ((rv r).toList ++ st))) : G k (ov.bind K) (J Z X nL cm mm lm pc lv st0) := by
  obtain ⟨hx, hb, hml, hown, hts, hK, hR, hc, hs, hbz⟩ := hX
  obtain ⟨hd, rfl⟩ := hd
  intro a ha hk H locs ls hP hS hl
  obtain ⟨r, hv, ha⟩ := Option.bind_eq_some_iff.mp ha
  obtain ⟨r1, r2, r3, r4⟩ := rmOk_spec hrm
  obtain ⟨m1, m2, m4, m5, m6, m7⟩ := mi
  rw [← hR] at r1 r2 hc hs
  refine runJ (va_runS (As := As) (rest := st) ⟨hx, hb, hml, hown, hts⟩ (hM r hv) ⟨callB_of n hts (gt_good m1 (fun _ h => h)) rfl r3 r4 (hts _ m4) (hts _ ml) ⟨m5, m6, m7⟩ ⟨r1, r2⟩, hts _ m2⟩ ⟨Pm_blind Z _ cm mm lm, fun U hU hW => ⟨rfl, by rw [hU]; exact hP, va_K.moved hW.alike hK, by rw [hU]; exact Nat.le_trans hbz.1 hS.1, hbz.2.warm hW⟩⟩ rfl hn hl.1 hst (lv_room hsum) hd ⟨hc, hs⟩) hS (fun H1 locs1 hP1 hS1 => kk r hv a ha hk H1 locs1 ls hP1 hS1 hl)
theorem g_callSN {β : Type} (hX : Cx Z X cc nL own R0) {y : MethodName} {cy : ByteArray} {maxL n idx : Nat} {host : String} {ret : Option FieldType} {rm : Room} {As st0 : List Value} {ov : Option β} {K : β → Option α} (rv : β → Option Value) (cm' : β → CM) (mm' : β → MM) (lm' : β → LM)
    (hM : ∀ r, ov = some r → Ct Z y cy maxL ret rm As cm mm lm (rv r) (cm' r) (mm' r) (lm' r)) (mi : MS y cy maxL ret n) (ml : ∀ U, NW U → va_Nw (.methodLinkNest own idx y host) U) (hn : As.length = n) (hrm : rmOk rm R0 maxL = true) (hst : st0 = As.reverse ++ st) (hsum : (st.map fun v => v.category).sum ≤ 8)
    (hd : decode cc pc = .ok (.invokestatic idx, 3) ∧ pc + 3 = q) (kk : ∀ r, ov = some r → G k (K r) (J Z X nL (cm' r) (mm' r) (lm' r) q lv ((rv r).toList ++ st))) : G k (ov.bind K) (J Z X nL cm mm lm pc lv st0) := by
  obtain ⟨hx, hb, hml, hown, hts, hK, hR, hc, hs, hbz⟩ := hX
  obtain ⟨hd, rfl⟩ := hd
  intro a ha hk H locs ls hP hS hl
  obtain ⟨r, hv, ha⟩ := Option.bind_eq_some_iff.mp ha
  obtain ⟨r1, r2, r3, r4⟩ := rmOk_spec hrm
  obtain ⟨m1, m2, m4, m5, m6, m7⟩ := mi
  rw [← hR] at r1 r2 hc hs
  refine runJ (va_runSN (host := host) (As := As) (rest := st) ⟨hx, hb, hml, hown, hts⟩ (hM r hv) ⟨va_cnB n hts (gt_good m1 (fun _ h => h)) rfl r3 r4 (ml _ hbz.2) (hts _ m4) ⟨m5, m6, m7⟩ ⟨r1, r2⟩, hts _ m2, trivial⟩ ⟨Pm_blind Z _ cm mm lm, fun U hU hW => ⟨rfl, by rw [hU]; exact hP, va_K.moved hW.alike hK, by rw [hU]; exact Nat.le_trans hbz.1 hS.1, hbz.2.warm hW⟩⟩ rfl hn hl.1 hst (lv_room hsum) hd ⟨hc, hs⟩) hS (fun H1 locs1 hP1 hS1 => kk r hv a ha hk H1 locs1 ls hP1 hS1 hl)
end Heap
