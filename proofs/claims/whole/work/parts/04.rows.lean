/-! THE JUDGEMENTS. J: from any heap that holds the memory, any locals that hold lv, the machine at pc with the stack st comes to the goal. G: the same, if the decompiled rest gives some a with k a. -/
/-- links to private members of a nest mate -/
def NW (U : State) : Prop := va_Nw (.methodLinkNest RX0 149 yX6_isGroup "KeptSeats") U ∧ va_Nw (.methodLinkNest RX0 193 yX6_isKind "KeptSeats") U
theorem NW.warm {s U : State} (hW : s.WarmedH U.vm) (h : NW s) : NW U := ⟨h.1.warmM hW, h.2.warmM hW⟩
theorem NW.same {s U : State} (hv : s.vm = U.vm) (h : NW s) : NW U := ⟨h.1.same rfl hv, h.2.same rfl hv⟩
def J (Z : ZC) (X : XC) (nL : Nat) (cm : CM) (mm : MM) (lm : LM) (pc : Nat) (lv : List (Option Value)) (st : List Value) : Prop :=
  ∀ (H : Heap) (locs : List Loc) (ls : Array Slot), va_P (zD Z) vwCl (wl Z cm mm lm) H → va_S (fun q => zb Z ≤ q) X.2.2.2.1.heap H locs → hasL ls nL lv →
    W X.1 (zl Z) X.2.1 X.2.2.1 X.2.2.2.1 X.2.2.2.2.1 X.2.2.2.2.2.1 X.2.2.2.2.2.2.1 X.2.2.2.2.2.2.2.1 X.2.2.2.2.2.2.2.2.1 H locs X.2.2.2.2.2.2.2.2.2.2.1 X.2.2.2.2.2.2.2.2.2.2.2 X.2.2.2.2.2.2.2.2.2.1 (F0 X.2.2.2.2.1 pc ls st)
def Cx (Z : ZC) (X : XC) (cc : ByteArray) (nL : Nat) (own : String) (R0 : Room) : Prop :=
  X.1.tables.exec = Jvm.exec ∧ X.2.2.2.2.2.2.2.2.1.code = cc ∧ X.2.2.2.2.2.2.2.2.1.maxLocals = nL ∧ X.2.2.2.1.vm.findClass own = some X.2.2.2.2.1.cls ∧ (∀ w ∈ Gt, w.before X.2.2.2.2.2.1 X.2.2.2.1 = true) ∧ va_K (zD Z) vwCl (ztys Z) X.2.2.2.1 ∧ X.2.2.1 = R0 ∧ X.2.2.2.2.2.2.2.2.2.2.1 ≤ R0.cells ∧ X.2.2.2.2.2.2.2.2.2.2.2 ≤ R0.slots ∧ zb Z ≤ X.2.2.2.1.heap.size ∧ NW X.2.2.2.1
def G {α : Type} (k : α → Prop) (o : Option α) (P : Prop) : Prop := ∀ a, o = some a → k a → P
/-- what a method's end says -/
def Qm (Z : ZC) (rv : Option Value) (cm : CM) (mm : MM) (lm : LM) : Array Value → State → Outcome → State → Prop := fun _ st oc t =>
  oc = .returned rv ∧ va_P (zD Z) vwCl (wl Z cm mm lm) t.heap ∧ va_K (zD Z) vwCl (ztys Z) t ∧ va_F (fun q => zb Z ≤ q) st t
def Pm (Z : ZC) (av : List Value) (cm : CM) (mm : MM) (lm : LM) : Array Value → State → Prop := fun v U =>
  v = av.toArray ∧ va_P (zD Z) vwCl (wl Z cm mm lm) U.heap ∧ va_K (zD Z) vwCl (ztys Z) U ∧ zb Z ≤ U.heap.size ∧ NW U
theorem Pm_blind (Z : ZC) (av : List Value) (cm : CM) (mm : MM) (lm : LM) : FrameBlind (Pm Z av cm mm lm) := by
  intro a U g mk h
  obtain ⟨h1, h2, h3, h4, h5⟩ := h
  exact ⟨h1, h2, va_K.moved (u := U) (U := U.calling g mk a) (Vm.Alike.refl U.vm) h3, h4, h5.same rfl⟩
/-- a method's contract -/
def Ct (Z : ZC) (y : MethodName) (cc : ByteArray) (maxL : Nat) (ret : Option FieldType) (rm : Room) (av : List Value) (cm : CM) (mm : MM) (lm : LM) (rv : Option Value) (cm' : CM) (mm' : MM) (lm' : LM) : Prop :=
  Met (zl Z) y (Cond.code y cc maxL ret :: Gt) rm (Pm Z av cm mm lm) (Qm Z rv cm' mm' lm') 0 0 (fun q => zb Z ≤ q)
/-- the end that a body must come to -/
def Fx (Z : ZC) (X : XC) (ret : Option FieldType) (rv : Option Value) (cm : CM) (mm : MM) (lm : LM) : Prop :=
  X.2.2.2.2.2.2.2.1.sig.returnType = ret ∧ X.2.2.2.2.2.2.2.1.locks = false ∧ X.2.2.2.2.2.2.2.2.2.1 = MQ X.2.2.2.2.2.2.1 (Qm Z rv cm mm lm) X.2.2.2.2.2.1 X.2.2.2.1 X.2.2.2.2.2.2.2.2.2.2.1 X.2.2.2.2.2.2.2.2.2.2.2 (fun q => zb Z ≤ q)
theorem Ct_of {Z : ZC} {y : MethodName} {cc : ByteArray} {maxL : Nat} {ret : Option FieldType} {rm : Room} {av : List Value} {cm cm' : CM} {mm mm' : MM} {lm lm' : LM} {rv : Option Value} {own : String} (lv : List (Option Value)) (hy : plainName y.cls = true ∧ y.cls = own) (hc : av.all (fun v => v.category == 1) = true) (hn : av.length ≤ maxL) (hl : av.map some ++ List.replicate (maxL - av.length) none = lv)
    (body : ∀ X : XC, Cx Z X cc maxL own rm → Fx Z X ret rv cm' mm' lm' → J Z X maxL cm mm lm 0 lv []) : Ct Z y cc maxL ret rm av cm mm lm rv cm' mm' lm' := by
  refine Met.ofW (cc := cc) (maxL := maxL) (ret := ret) hy.1 rfl ?_
  intro p e s m args below meth c s₁ B hml hv
  obtain ⟨rfl, hP, hK, hb⟩ := hv
  have hts := atoms_spec (ws := Cond.code y cc maxL ret :: Gt) B.pre
  have hown : s.vm.findClass own = some m.cls := by rw [← hy.2]; exact findClass_of_methodNamed B.named
  have K := body (p, e, (headSpec (Cond.code y cc maxL ret :: Gt) rm).room, s, m, av.toArray, below, meth, c, MQ below (Qm Z rv cm' mm' lm') av.toArray s 0 0 (fun q => zb Z ≤ q), 0, 0)
    ⟨B.exec, B.bytes, hml, hown, fun w hw => hts w (List.mem_cons_of_mem _ hw), hK, rfl, Nat.zero_le _, Nat.zero_le _, hb⟩ ⟨B.returns, B.notSynchronized, rfl⟩
  rw [lg_entry_eq]
  exact K s.heap [] _ hP va_S.rf (hasL_entry hc hn hl)
section Rows
variable {Z : ZC} {X : XC} {cc : ByteArray} {nL : Nat} {own : String} {R0 : Room} {cm cm' : CM} {mm mm' : MM} {lm lm' : LM} {pc q i : Nat} {lv : List (Option Value)} {st : List Value} {α : Type} {k : α → Prop} {o : Option α}
theorem g_leaf {P : α → Prop} {a : α} : G P (some a) (P a) := fun b h hk => by cases h; exact hk
theorem g_end {P : Prop} {a : α} (h : k a → P) : G k (some a) P := fun b e hk => by cases e; exact h hk
theorem g_if {c : Prop} [Decidable c] {A B : Option α} {P : Prop} (ht : c → G k A P) (hf : ¬ c → G k B P) : G k (if c then A else B) P := by
  intro a h hk
  by_cases hc : c
  · rw [if_pos hc] at h; exact ht hc a h hk
  · rw [if_neg hc] at h; exact hf hc a h hk
theorem g_bind {β : Type} {o : Option β} {K : β → Option α} {P : Prop} (PJ : β → Prop) (h1 : G PJ o P) (h2 : ∀ v, G k (K v) (PJ v)) : G k (o.bind K) P := by
  intro a h hk
  obtain ⟨v, hv, h⟩ := Option.bind_eq_some_iff.mp h
  exact h1 v hv (h2 v a h hk)
theorem g_nop {P P' : Prop} (h : P' → P) (g : G k o P') : G k o P := fun a e hk => h (g a e hk)
/-- loops -/
def itr {S O : Type} (step : S → Option (O ⊕ S)) : Nat → S → Option O
  | 0, _ => none
  | n + 1, s => match step s with
    | none => none
    | some (.inl o) => some o
    | some (.inr s') => itr step n s'
theorem itr_J {S O : Type} {step : S → Option (O ⊕ S)} {Hd : S → Prop} {Ex : O → Prop} (hs : ∀ s, G (fun r => match r with | .inl o => Ex o | .inr s' => Hd s') (step s) (Hd s)) : ∀ (n : Nat) (s : S) (o : O), itr step n s = some o → Ex o → Hd s
  | 0, _, _, h, _ => by simp [itr] at h
  | n + 1, s, o, h, he => by
    unfold itr at h
    cases hq : step s with
    | none => rw [hq] at h; simp at h
    | some r =>
      rw [hq] at h
      cases r with
      | inl o' =>
        simp at h
        subst h
        exact hs s _ hq he
      | inr s' => exact hs s _ hq (itr_J hs n s' o h he)
theorem g_loop {S O : Type} {step : S → Option (O ⊕ S)} {n : Nat} {s : S} {K : O → Option α} (Hd : S → Prop) (Ex : O → Prop) (hs : ∀ s, G (fun r => match r with | .inl o => Ex o | .inr s' => Hd s') (step s) (Hd s)) (hx : ∀ o, G k (K o) (Ex o)) : G k ((itr step n s).bind K) (Hd s) := by
  intro a h hk
  obtain ⟨v, hv, h⟩ := Option.bind_eq_some_iff.mp h
  exact itr_J hs n s v hv (hx v a h hk)
theorem g_iconst (hX : Cx Z X cc nL own R0) {n : Int} {v : Int32} (hd : decode cc pc = .ok (.iconst n, 1) ∧ pc + 1 = q) (hv : Int32.ofInt n = v) (kk : G k o (J Z X nL cm mm lm q lv (.int v :: st))) : G k o (J Z X nL cm mm lm pc lv (st)) := by
  obtain ⟨hx, hb, hml, hown, hts, hK, rfl, hc, hs, hbz⟩ := hX
  obtain ⟨hd, rfl⟩ := hd
  intro a ha hk H locs ls hP hS hl
  exact lv_iconst hx hb hd hv (kk a ha hk H locs ls hP hS hl)

theorem g_bipush (hX : Cx Z X cc nL own R0) {n : Int} {v : Int32} (hd : decode cc pc = .ok (.bipush n, 2) ∧ pc + 2 = q) (hv : (Int8.ofInt n).toInt32 = v) (kk : G k o (J Z X nL cm mm lm q lv (.int v :: st))) : G k o (J Z X nL cm mm lm pc lv (st)) := by
  obtain ⟨hx, hb, hml, hown, hts, hK, rfl, hc, hs, hbz⟩ := hX
  obtain ⟨hd, rfl⟩ := hd
  intro a ha hk H locs ls hP hS hl
  exact lv_bipush hx hb hd hv (kk a ha hk H locs ls hP hS hl)

theorem g_sipush (hX : Cx Z X cc nL own R0) {n : Int} {v : Int32} (hd : decode cc pc = .ok (.sipush n, 3) ∧ pc + 3 = q) (hv : (Int16.ofInt n).toInt32 = v) (kk : G k o (J Z X nL cm mm lm q lv (.int v :: st))) : G k o (J Z X nL cm mm lm pc lv (st)) := by
  obtain ⟨hx, hb, hml, hown, hts, hK, rfl, hc, hs, hbz⟩ := hX
  obtain ⟨hd, rfl⟩ := hd
  intro a ha hk H locs ls hP hS hl
  exact lv_sipush hx hb hd hv (kk a ha hk H locs ls hP hS hl)

theorem g_lconst (hX : Cx Z X cc nL own R0) {n : Fin 2} {v : Int64} (hd : decode cc pc = .ok (.lconst n, 1) ∧ pc + 1 = q) (hv : Int64.ofNat (n : Nat) = v) (kk : G k o (J Z X nL cm mm lm q lv (.long v :: st))) : G k o (J Z X nL cm mm lm pc lv (st)) := by
  obtain ⟨hx, hb, hml, hown, hts, hK, rfl, hc, hs, hbz⟩ := hX
  obtain ⟨hd, rfl⟩ := hd
  intro a ha hk H locs ls hP hS hl
  exact lv_lconst hx hb hd hv (kk a ha hk H locs ls hP hS hl)

theorem g_iload_n (hX : Cx Z X cc nL own R0) {n : Fin 4} {x : Int32} (hd : decode cc pc = .ok (.iload_n n, 1) ∧ pc + 1 = q) (hi : (n : Nat) = i) (hv : lkv lv i = some (.int x)) (kk : G k o (J Z X nL cm mm lm q lv (.int x :: st))) : G k o (J Z X nL cm mm lm pc lv (st)) := by
  obtain ⟨hx, hb, hml, hown, hts, hK, rfl, hc, hs, hbz⟩ := hX
  obtain ⟨hd, rfl⟩ := hd
  intro a ha hk H locs ls hP hS hl
  exact lv_iload_n hx hb hd hi (hl.2.2 i _ hv) (kk a ha hk H locs ls hP hS hl)

theorem g_iload (hX : Cx Z X cc nL own R0) {x : Int32} (hd : decode cc pc = .ok (.iload i, 2) ∧ pc + 2 = q) (hv : lkv lv i = some (.int x)) (kk : G k o (J Z X nL cm mm lm q lv (.int x :: st))) : G k o (J Z X nL cm mm lm pc lv (st)) := by
  obtain ⟨hx, hb, hml, hown, hts, hK, rfl, hc, hs, hbz⟩ := hX
  obtain ⟨hd, rfl⟩ := hd
  intro a ha hk H locs ls hP hS hl
  exact lv_iload hx hb hd (hl.2.2 i _ hv) (kk a ha hk H locs ls hP hS hl)

theorem g_aload_n (hX : Cx Z X cc nL own R0) {n : Fin 4} {x : Nat} (hd : decode cc pc = .ok (.aload_n n, 1) ∧ pc + 1 = q) (hi : (n : Nat) = i) (hv : lkv lv i = some (.ref x)) (kk : G k o (J Z X nL cm mm lm q lv (.ref x :: st))) : G k o (J Z X nL cm mm lm pc lv (st)) := by
  obtain ⟨hx, hb, hml, hown, hts, hK, rfl, hc, hs, hbz⟩ := hX
  obtain ⟨hd, rfl⟩ := hd
  intro a ha hk H locs ls hP hS hl
  exact lv_aload_n hx hb hd hi (hl.2.2 i _ hv) (kk a ha hk H locs ls hP hS hl)

theorem g_aload (hX : Cx Z X cc nL own R0) {x : Nat} (hd : decode cc pc = .ok (.aload i, 2) ∧ pc + 2 = q) (hv : lkv lv i = some (.ref x)) (kk : G k o (J Z X nL cm mm lm q lv (.ref x :: st))) : G k o (J Z X nL cm mm lm pc lv (st)) := by
  obtain ⟨hx, hb, hml, hown, hts, hK, rfl, hc, hs, hbz⟩ := hX
  obtain ⟨hd, rfl⟩ := hd
  intro a ha hk H locs ls hP hS hl
  exact lv_aload hx hb hd (hl.2.2 i _ hv) (kk a ha hk H locs ls hP hS hl)

theorem g_lload_n (hX : Cx Z X cc nL own R0) {n : Fin 4} {x : Int64} (hd : decode cc pc = .ok (.lload_n n, 1) ∧ pc + 1 = q) (hi : (n : Nat) = i) (hv : lkv lv i = some (.long x)) (kk : G k o (J Z X nL cm mm lm q lv (.long x :: st))) : G k o (J Z X nL cm mm lm pc lv (st)) := by
  obtain ⟨hx, hb, hml, hown, hts, hK, rfl, hc, hs, hbz⟩ := hX
  obtain ⟨hd, rfl⟩ := hd
  intro a ha hk H locs ls hP hS hl
  exact lv_lload_n hx hb hd hi (hl.2.2 i _ hv) (kk a ha hk H locs ls hP hS hl)

theorem g_lload (hX : Cx Z X cc nL own R0) {x : Int64} (hd : decode cc pc = .ok (.lload i, 2) ∧ pc + 2 = q) (hv : lkv lv i = some (.long x)) (kk : G k o (J Z X nL cm mm lm q lv (.long x :: st))) : G k o (J Z X nL cm mm lm pc lv (st)) := by
  obtain ⟨hx, hb, hml, hown, hts, hK, rfl, hc, hs, hbz⟩ := hX
  obtain ⟨hd, rfl⟩ := hd
  intro a ha hk H locs ls hP hS hl
  exact lv_lload hx hb hd (hl.2.2 i _ hv) (kk a ha hk H locs ls hP hS hl)

theorem g_aload_nN (hX : Cx Z X cc nL own R0) {n : Fin 4} (hd : decode cc pc = .ok (.aload_n n, 1) ∧ pc + 1 = q) (hi : (n : Nat) = i) (hv : lkv lv i = some .null) (kk : G k o (J Z X nL cm mm lm q lv (.null :: st))) : G k o (J Z X nL cm mm lm pc lv (st)) := by
  obtain ⟨hx, hb, hml, hown, hts, hK, rfl, hc, hs, hbz⟩ := hX
  obtain ⟨hd, rfl⟩ := hd
  intro a ha hk H locs ls hP hS hl
  exact lv_aload_nN hx hb hd hi (hl.2.2 i _ hv) (kk a ha hk H locs ls hP hS hl)

theorem g_istore_n (hX : Cx Z X cc nL own R0) {n : Fin 4} {x : Int32} (hd : decode cc pc = .ok (.istore_n n, 1) ∧ pc + 1 = q) (hi : (n : Nat) = i) (hn : i < nL) (hc2 : ctk lv i = true) (kk : G k o (J Z X nL cm mm lm q (stv lv i (some (.int x))) (st))) : G k o (J Z X nL cm mm lm pc lv (.int x :: st)) := by
  obtain ⟨hx, hb, hml, hown, hts, hK, rfl, hc, hs, hbz⟩ := hX
  obtain ⟨hd, rfl⟩ := hd
  intro a ha hk H locs ls hP hS hl
  exact lv_istore_n hx hb hd hi hl.kit hn rfl (fun ls' hl' => kk a ha hk H locs ls' hP hS (hasL.st hc2 hl'))

theorem g_istore (hX : Cx Z X cc nL own R0) {x : Int32} (hd : decode cc pc = .ok (.istore i, 2) ∧ pc + 2 = q) (hn : i < nL) (hc2 : ctk lv i = true) (kk : G k o (J Z X nL cm mm lm q (stv lv i (some (.int x))) (st))) : G k o (J Z X nL cm mm lm pc lv (.int x :: st)) := by
  obtain ⟨hx, hb, hml, hown, hts, hK, rfl, hc, hs, hbz⟩ := hX
  obtain ⟨hd, rfl⟩ := hd
  intro a ha hk H locs ls hP hS hl
  exact lv_istore hx hb hd hl.kit hn rfl (fun ls' hl' => kk a ha hk H locs ls' hP hS (hasL.st hc2 hl'))

theorem g_astore_n (hX : Cx Z X cc nL own R0) {n : Fin 4} {x : Nat} (hd : decode cc pc = .ok (.astore_n n, 1) ∧ pc + 1 = q) (hi : (n : Nat) = i) (hn : i < nL) (hc2 : ctk lv i = true) (kk : G k o (J Z X nL cm mm lm q (stv lv i (some (.ref x))) (st))) : G k o (J Z X nL cm mm lm pc lv (.ref x :: st)) := by
  obtain ⟨hx, hb, hml, hown, hts, hK, rfl, hc, hs, hbz⟩ := hX
  obtain ⟨hd, rfl⟩ := hd
  intro a ha hk H locs ls hP hS hl
  exact lv_astore_n hx hb hd hi hl.kit hn rfl (fun ls' hl' => kk a ha hk H locs ls' hP hS (hasL.st hc2 hl'))

theorem g_astore (hX : Cx Z X cc nL own R0) {x : Nat} (hd : decode cc pc = .ok (.astore i, 2) ∧ pc + 2 = q) (hn : i < nL) (hc2 : ctk lv i = true) (kk : G k o (J Z X nL cm mm lm q (stv lv i (some (.ref x))) (st))) : G k o (J Z X nL cm mm lm pc lv (.ref x :: st)) := by
  obtain ⟨hx, hb, hml, hown, hts, hK, rfl, hc, hs, hbz⟩ := hX
  obtain ⟨hd, rfl⟩ := hd
  intro a ha hk H locs ls hP hS hl
  exact lv_astore hx hb hd hl.kit hn rfl (fun ls' hl' => kk a ha hk H locs ls' hP hS (hasL.st hc2 hl'))

theorem g_astore_nN (hX : Cx Z X cc nL own R0) {n : Fin 4} (hd : decode cc pc = .ok (.astore_n n, 1) ∧ pc + 1 = q) (hi : (n : Nat) = i) (hn : i < nL) (hc2 : ctk lv i = true) (kk : G k o (J Z X nL cm mm lm q (stv lv i (some .null)) (st))) : G k o (J Z X nL cm mm lm pc lv (.null :: st)) := by
  obtain ⟨hx, hb, hml, hown, hts, hK, rfl, hc, hs, hbz⟩ := hX
  obtain ⟨hd, rfl⟩ := hd
  intro a ha hk H locs ls hP hS hl
  exact lv_astore_nN hx hb hd hi hl.kit hn rfl (fun ls' hl' => kk a ha hk H locs ls' hP hS (hasL.st hc2 hl'))

theorem g_lstore_n (hX : Cx Z X cc nL own R0) {n : Fin 4} {x : Int64} (hd : decode cc pc = .ok (.lstore_n n, 1) ∧ pc + 1 = q) (hi : (n : Nat) = i) (hn : i + 1 < nL) (hc2 : ctk lv i = true) (kk : G k o (J Z X nL cm mm lm q (stv (stv lv (i + 1) none) i (some (.long x))) (st))) : G k o (J Z X nL cm mm lm pc lv (.long x :: st)) := by
  obtain ⟨hx, hb, hml, hown, hts, hK, rfl, hc, hs, hbz⟩ := hX
  obtain ⟨hd, rfl⟩ := hd
  intro a ha hk H locs ls hP hS hl
  exact lv_lstore_n hx hb hd hi hl.kit hn rfl (fun ls' hl' => kk a ha hk H locs ls' hP hS (hasL.st2 hc2 hl'))

theorem g_lstore (hX : Cx Z X cc nL own R0) {x : Int64} (hd : decode cc pc = .ok (.lstore i, 2) ∧ pc + 2 = q) (hn : i + 1 < nL) (hc2 : ctk lv i = true) (kk : G k o (J Z X nL cm mm lm q (stv (stv lv (i + 1) none) i (some (.long x))) (st))) : G k o (J Z X nL cm mm lm pc lv (.long x :: st)) := by
  obtain ⟨hx, hb, hml, hown, hts, hK, rfl, hc, hs, hbz⟩ := hX
  obtain ⟨hd, rfl⟩ := hd
  intro a ha hk H locs ls hP hS hl
  exact lv_lstore hx hb hd hl.kit hn rfl (fun ls' hl' => kk a ha hk H locs ls' hP hS (hasL.st2 hc2 hl'))

theorem g_iadd (hX : Cx Z X cc nL own R0) {x y : Int32} (hd : decode cc pc = .ok (.iadd, 1) ∧ pc + 1 = q)  (kk : G k o (J Z X nL cm mm lm q lv (.int (x + y) :: st))) : G k o (J Z X nL cm mm lm pc lv (.int y :: .int x :: st)) := by
  obtain ⟨hx, hb, hml, hown, hts, hK, rfl, hc, hs, hbz⟩ := hX
  obtain ⟨hd, rfl⟩ := hd
  intro a ha hk H locs ls hP hS hl
  exact lv_iadd hx hb hd (kk a ha hk H locs ls hP hS hl)

theorem g_isub (hX : Cx Z X cc nL own R0) {x y : Int32} (hd : decode cc pc = .ok (.isub, 1) ∧ pc + 1 = q)  (kk : G k o (J Z X nL cm mm lm q lv (.int (x - y) :: st))) : G k o (J Z X nL cm mm lm pc lv (.int y :: .int x :: st)) := by
  obtain ⟨hx, hb, hml, hown, hts, hK, rfl, hc, hs, hbz⟩ := hX
  obtain ⟨hd, rfl⟩ := hd
  intro a ha hk H locs ls hP hS hl
  exact lv_isub hx hb hd (kk a ha hk H locs ls hP hS hl)

theorem g_imul (hX : Cx Z X cc nL own R0) {x y : Int32} (hd : decode cc pc = .ok (.imul, 1) ∧ pc + 1 = q)  (kk : G k o (J Z X nL cm mm lm q lv (.int (x * y) :: st))) : G k o (J Z X nL cm mm lm pc lv (.int y :: .int x :: st)) := by
  obtain ⟨hx, hb, hml, hown, hts, hK, rfl, hc, hs, hbz⟩ := hX
  obtain ⟨hd, rfl⟩ := hd
  intro a ha hk H locs ls hP hS hl
  exact lv_imul hx hb hd (kk a ha hk H locs ls hP hS hl)

theorem g_iand (hX : Cx Z X cc nL own R0) {x y : Int32} (hd : decode cc pc = .ok (.iand, 1) ∧ pc + 1 = q)  (kk : G k o (J Z X nL cm mm lm q lv (.int (x &&& y) :: st))) : G k o (J Z X nL cm mm lm pc lv (.int y :: .int x :: st)) := by
  obtain ⟨hx, hb, hml, hown, hts, hK, rfl, hc, hs, hbz⟩ := hX
  obtain ⟨hd, rfl⟩ := hd
  intro a ha hk H locs ls hP hS hl
  exact lv_iand hx hb hd (kk a ha hk H locs ls hP hS hl)

theorem g_ior (hX : Cx Z X cc nL own R0) {x y : Int32} (hd : decode cc pc = .ok (.ior, 1) ∧ pc + 1 = q)  (kk : G k o (J Z X nL cm mm lm q lv (.int (x ||| y) :: st))) : G k o (J Z X nL cm mm lm pc lv (.int y :: .int x :: st)) := by
  obtain ⟨hx, hb, hml, hown, hts, hK, rfl, hc, hs, hbz⟩ := hX
  obtain ⟨hd, rfl⟩ := hd
  intro a ha hk H locs ls hP hS hl
  exact lv_ior hx hb hd (kk a ha hk H locs ls hP hS hl)

theorem g_ixor (hX : Cx Z X cc nL own R0) {x y : Int32} (hd : decode cc pc = .ok (.ixor, 1) ∧ pc + 1 = q)  (kk : G k o (J Z X nL cm mm lm q lv (.int (x ^^^ y) :: st))) : G k o (J Z X nL cm mm lm pc lv (.int y :: .int x :: st)) := by
  obtain ⟨hx, hb, hml, hown, hts, hK, rfl, hc, hs, hbz⟩ := hX
  obtain ⟨hd, rfl⟩ := hd
  intro a ha hk H locs ls hP hS hl
  exact lv_ixor hx hb hd (kk a ha hk H locs ls hP hS hl)

theorem g_idiv (hX : Cx Z X cc nL own R0) {x y : Int32} (hd : decode cc pc = .ok (.idiv, 1) ∧ pc + 1 = q) (hne : ¬ y = 0) (kk : G k o (J Z X nL cm mm lm q lv (.int (x / y) :: st))) : G k o (J Z X nL cm mm lm pc lv (.int y :: .int x :: st)) := by
  obtain ⟨hx, hb, hml, hown, hts, hK, rfl, hc, hs, hbz⟩ := hX
  obtain ⟨hd, rfl⟩ := hd
  intro a ha hk H locs ls hP hS hl
  exact lv_idiv hx hb hd hne (kk a ha hk H locs ls hP hS hl)

theorem g_irem (hX : Cx Z X cc nL own R0) {x y : Int32} (hd : decode cc pc = .ok (.irem, 1) ∧ pc + 1 = q) (hne : ¬ y = 0) (kk : G k o (J Z X nL cm mm lm q lv (.int (x - x / y * y) :: st))) : G k o (J Z X nL cm mm lm pc lv (.int y :: .int x :: st)) := by
  obtain ⟨hx, hb, hml, hown, hts, hK, rfl, hc, hs, hbz⟩ := hX
  obtain ⟨hd, rfl⟩ := hd
  intro a ha hk H locs ls hP hS hl
  exact lv_irem hx hb hd hne (kk a ha hk H locs ls hP hS hl)

theorem g_ishl (hX : Cx Z X cc nL own R0) {x y : Int32} (hd : decode cc pc = .ok (.ishl, 1) ∧ pc + 1 = q)  (kk : G k o (J Z X nL cm mm lm q lv (.int (x <<< (y &&& 31)) :: st))) : G k o (J Z X nL cm mm lm pc lv (.int y :: .int x :: st)) := by
  obtain ⟨hx, hb, hml, hown, hts, hK, rfl, hc, hs, hbz⟩ := hX
  obtain ⟨hd, rfl⟩ := hd
  intro a ha hk H locs ls hP hS hl
  exact lv_ishl hx hb hd (kk a ha hk H locs ls hP hS hl)

theorem g_ishr (hX : Cx Z X cc nL own R0) {x y : Int32} (hd : decode cc pc = .ok (.ishr, 1) ∧ pc + 1 = q)  (kk : G k o (J Z X nL cm mm lm q lv (.int (x >>> (y &&& 31)) :: st))) : G k o (J Z X nL cm mm lm pc lv (.int y :: .int x :: st)) := by
  obtain ⟨hx, hb, hml, hown, hts, hK, rfl, hc, hs, hbz⟩ := hX
  obtain ⟨hd, rfl⟩ := hd
  intro a ha hk H locs ls hP hS hl
  exact lv_ishr hx hb hd (kk a ha hk H locs ls hP hS hl)

theorem g_iushr (hX : Cx Z X cc nL own R0) {x y : Int32} (hd : decode cc pc = .ok (.iushr, 1) ∧ pc + 1 = q)  (kk : G k o (J Z X nL cm mm lm q lv (.int ((x.toUInt32 >>> (y.toUInt32 &&& Int32.toUInt32 31)).toInt32) :: st))) : G k o (J Z X nL cm mm lm pc lv (.int y :: .int x :: st)) := by
  obtain ⟨hx, hb, hml, hown, hts, hK, rfl, hc, hs, hbz⟩ := hX
  obtain ⟨hd, rfl⟩ := hd
  intro a ha hk H locs ls hP hS hl
  exact lv_iushr hx hb hd rfl (kk a ha hk H locs ls hP hS hl)

theorem g_i2l (hX : Cx Z X cc nL own R0) {x : Int32} (hd : decode cc pc = .ok (.i2l, 1) ∧ pc + 1 = q)  (kk : G k o (J Z X nL cm mm lm q lv (.long x.toInt64 :: st))) : G k o (J Z X nL cm mm lm pc lv (.int x :: st)) := by
  obtain ⟨hx, hb, hml, hown, hts, hK, rfl, hc, hs, hbz⟩ := hX
  obtain ⟨hd, rfl⟩ := hd
  intro a ha hk H locs ls hP hS hl
  exact lv_i2l hx hb hd rfl (kk a ha hk H locs ls hP hS hl)

theorem g_ladd (hX : Cx Z X cc nL own R0) {x y : Int64} (hd : decode cc pc = .ok (.ladd, 1) ∧ pc + 1 = q)  (kk : G k o (J Z X nL cm mm lm q lv (.long (x + y) :: st))) : G k o (J Z X nL cm mm lm pc lv (.long y :: .long x :: st)) := by
  obtain ⟨hx, hb, hml, hown, hts, hK, rfl, hc, hs, hbz⟩ := hX
  obtain ⟨hd, rfl⟩ := hd
  intro a ha hk H locs ls hP hS hl
  exact lv_ladd hx hb hd (kk a ha hk H locs ls hP hS hl)

theorem g_lcmp (hX : Cx Z X cc nL own R0) {x y : Int64} (hd : decode cc pc = .ok (.lcmp, 1) ∧ pc + 1 = q)  (kk : G k o (J Z X nL cm mm lm q lv (.int (lg_cmp x y) :: st))) : G k o (J Z X nL cm mm lm pc lv (.long y :: .long x :: st)) := by
  obtain ⟨hx, hb, hml, hown, hts, hK, rfl, hc, hs, hbz⟩ := hX
  obtain ⟨hd, rfl⟩ := hd
  intro a ha hk H locs ls hP hS hl
  exact W.lcmp hx hb hd (kk a ha hk H locs ls hP hS hl)

theorem g_dup (hX : Cx Z X cc nL own R0) {v : Value} (hd : decode cc pc = .ok (.dup, 1) ∧ pc + 1 = q) (hv : v.category = 1) (kk : G k o (J Z X nL cm mm lm q lv (v :: v :: st))) : G k o (J Z X nL cm mm lm pc lv (v :: st)) := by
  obtain ⟨hx, hb, hml, hown, hts, hK, rfl, hc, hs, hbz⟩ := hX
  obtain ⟨hd, rfl⟩ := hd
  intro a ha hk H locs ls hP hS hl
  exact lv_dup hx hb hd hv (kk a ha hk H locs ls hP hS hl)

theorem g_pop (hX : Cx Z X cc nL own R0) {v : Value} (hd : decode cc pc = .ok (.pop, 1) ∧ pc + 1 = q) (hv : v.category = 1) (kk : G k o (J Z X nL cm mm lm q lv (st))) : G k o (J Z X nL cm mm lm pc lv (v :: st)) := by
  obtain ⟨hx, hb, hml, hown, hts, hK, rfl, hc, hs, hbz⟩ := hX
  obtain ⟨hd, rfl⟩ := hd
  intro a ha hk H locs ls hP hS hl
  exact lv_pop hx hb hd hv (kk a ha hk H locs ls hP hS hl)

theorem g_dup2 (hX : Cx Z X cc nL own R0) {v w : Value} (hd : decode cc pc = .ok (.dup2, 1) ∧ pc + 1 = q) (hv : v.category = 1) (hw : w.category = 1) (kk : G k o (J Z X nL cm mm lm q lv (v :: w :: v :: w :: st))) : G k o (J Z X nL cm mm lm pc lv (v :: w :: st)) := by
  obtain ⟨hx, hb, hml, hown, hts, hK, rfl, hc, hs, hbz⟩ := hX
  obtain ⟨hd, rfl⟩ := hd
  intro a ha hk H locs ls hP hS hl
  exact lv_dup2_11 hx hb hd hv hw (kk a ha hk H locs ls hP hS hl)

theorem g_null (hX : Cx Z X cc nL own R0)  (hd : decode cc pc = .ok (.aconst_null, 1) ∧ pc + 1 = q)  (kk : G k o (J Z X nL cm mm lm q lv (.null :: st))) : G k o (J Z X nL cm mm lm pc lv (st)) := by
  obtain ⟨hx, hb, hml, hown, hts, hK, rfl, hc, hs, hbz⟩ := hX
  obtain ⟨hd, rfl⟩ := hd
  intro a ha hk H locs ls hP hS hl
  exact lv_null hx hb hd (kk a ha hk H locs ls hP hS hl)

theorem g_ldc (hX : Cx Z X cc nL own R0) {j : Nat} {v : Int32} (hd : decode cc pc = .ok (.ldc j, 2) ∧ pc + 2 = q) (hw : Cond.constant own j v ∈ Gt) (kk : G k o (J Z X nL cm mm lm q lv (.int v :: st))) : G k o (J Z X nL cm mm lm pc lv (st)) := by
  obtain ⟨hx, hb, hml, hown, hts, hK, rfl, hc, hs, hbz⟩ := hX
  obtain ⟨hd, rfl⟩ := hd
  intro a ha hk H locs ls hP hS hl
  exact lv_ldc hx hb hown (hts _ hw) hd (kk a ha hk H locs ls hP hS hl)

theorem g_ldcw (hX : Cx Z X cc nL own R0) {j : Nat} {v : Int32} (hd : decode cc pc = .ok (.ldc_w j, 3) ∧ pc + 3 = q) (hw : Cond.constant own j v ∈ Gt) (kk : G k o (J Z X nL cm mm lm q lv (.int v :: st))) : G k o (J Z X nL cm mm lm pc lv (st)) := by
  obtain ⟨hx, hb, hml, hown, hts, hK, rfl, hc, hs, hbz⟩ := hX
  obtain ⟨hd, rfl⟩ := hd
  intro a ha hk H locs ls hP hS hl
  exact lv_ldcw hx hb hown (hts _ hw) hd (kk a ha hk H locs ls hP hS hl)

theorem g_ldc2 (hX : Cx Z X cc nL own R0) {j : Nat} {v : Int64} (hd : decode cc pc = .ok (.ldc2_w j, 3) ∧ pc + 3 = q) (hw : Cond.constantLong own j v ∈ Gt) (kk : G k o (J Z X nL cm mm lm q lv (.long v :: st))) : G k o (J Z X nL cm mm lm pc lv (st)) := by
  obtain ⟨hx, hb, hml, hown, hts, hK, rfl, hc, hs, hbz⟩ := hX
  obtain ⟨hd, rfl⟩ := hd
  intro a ha hk H locs ls hP hS hl
  exact lv_ldc2 hx hb hown (hts _ hw) hd (kk a ha hk H locs ls hP hS hl)

theorem g_ifref (hX : Cx Z X cc nL own R0) {x : Nat} {off : Int} (hd : decode cc pc = .ok (.ifnull off, 3) ∧ pc + 3 = q)  (kk : G k o (J Z X nL cm mm lm q lv (st))) : G k o (J Z X nL cm mm lm pc lv (.ref x :: st)) := by
  obtain ⟨hx, hb, hml, hown, hts, hK, rfl, hc, hs, hbz⟩ := hX
  obtain ⟨hd, rfl⟩ := hd
  intro a ha hk H locs ls hP hS hl
  exact lv_ifnull hx hb hd (kk a ha hk H locs ls hP hS hl)

theorem g_iinc (hX : Cx Z X cc nL own R0) {n : Int} {x d : Int32} (hd : decode cc pc = .ok (.iinc i n, 3) ∧ pc + 3 = q) (he : Int32.ofInt n = d) (hv : lkv lv i = some (.int x)) (hn : i < nL) (hc2 : ctk lv i = true) (kk : G k o (J Z X nL cm mm lm q (stv lv i (some (.int (x + d)))) st)) : G k o (J Z X nL cm mm lm pc lv st) := by
  obtain ⟨hx, hb, hml, hown, hts, hK, rfl, hc, hs, hbz⟩ := hX
  obtain ⟨hd, rfl⟩ := hd
  intro a ha hk H locs ls hP hS hl
  obtain ⟨j, hj⟩ := List.getElem?_of_mem (mem_prs lv 0 i _ hv)
  rw [Nat.zero_add] at hj
  exact lv_iinc hx hb hd hl.kit hj (by rw [he]) hn rfl (fun ls' hl' => kk a ha hk H locs ls' hP hS (hasL.st hc2 hl'))

theorem g_goto (hX : Cx Z X cc nL own R0) {off : Int} {t : Nat} (hd : decode cc pc = .ok (.goto off, 3) ∧ (pc : Int) + off = (t : Int))  (kk : G k o (J Z X nL cm mm lm t lv st)) : G k o (J Z X nL cm mm lm pc lv st) := by
  obtain ⟨hx, hb, hml, hown, hts, hK, rfl, hc, hs, hbz⟩ := hX
  obtain ⟨hd, ht⟩ := hd
  intro a ha hk H locs ls hP hS hl
  exact lv_goto hx hb hd ht (kk a ha hk H locs ls hP hS hl)

theorem g_ifnul (hX : Cx Z X cc nL own R0) {off : Int} {t : Nat} (hd : decode cc pc = .ok (.ifnull off, 3) ∧ pc + 3 = q ∧ (pc : Int) + off = (t : Int))  (kk : G k o (J Z X nL cm mm lm t lv st)) : G k o (J Z X nL cm mm lm pc lv (.null :: st)) := by
  obtain ⟨hx, hb, hml, hown, hts, hK, rfl, hc, hs, hbz⟩ := hX
  obtain ⟨hd, -, ht⟩ := hd
  intro a ha hk H locs ls hP hS hl
  exact lv_ifnullN hx hb hd ht (kk a ha hk H locs ls hP hS hl)

theorem g_icmp_eq (hX : Cx Z X cc nL own R0) {x y : Int32} {off : Int} {t : Nat} {_ : Decidable (x = y)} {A B : Option α} (hd : decode cc pc = .ok (.if_icmp .eq off, 3) ∧ pc + 3 = q ∧ (pc : Int) + off = (t : Int))  (kt : x = y → G k A (J Z X nL cm mm lm t lv st)) (kf : ¬ (x = y) → G k B (J Z X nL cm mm lm q lv st)) : G k (if x = y then A else B) (J Z X nL cm mm lm pc lv (.int y :: .int x :: st)) := by
  obtain ⟨hx, hb, hml, hown, hts, hK, rfl, hc, hs, hbz⟩ := hX
  obtain ⟨hd, rfl, ht⟩ := hd
  intro a ha hk H locs ls hP hS hl
  refine lv_icmp_eq hx hb hd ht (fun h => kt ?_ a ?_ hk H locs ls hP hS hl) (fun h => kf ?_ a ?_ hk H locs ls hP hS hl)
  · exact h
  · rw [if_pos (by exact h)] at ha; exact ha
  · exact h
  · rw [if_neg (by exact h)] at ha; exact ha

theorem g_if_eq (hX : Cx Z X cc nL own R0) {x : Int32} {off : Int} {t : Nat} {_ : Decidable (x = 0)} {A B : Option α} (hd : decode cc pc = .ok (.ifCond .eq off, 3) ∧ pc + 3 = q ∧ (pc : Int) + off = (t : Int))  (kt : x = 0 → G k A (J Z X nL cm mm lm t lv st)) (kf : ¬ (x = 0) → G k B (J Z X nL cm mm lm q lv st)) : G k (if x = 0 then A else B) (J Z X nL cm mm lm pc lv (.int x :: st)) := by
  obtain ⟨hx, hb, hml, hown, hts, hK, rfl, hc, hs, hbz⟩ := hX
  obtain ⟨hd, rfl, ht⟩ := hd
  intro a ha hk H locs ls hP hS hl
  refine lv_if_eq hx hb hd ht (fun h => kt ?_ a ?_ hk H locs ls hP hS hl) (fun h => kf ?_ a ?_ hk H locs ls hP hS hl)
  · exact h
  · rw [if_pos (by exact h)] at ha; exact ha
  · exact h
  · rw [if_neg (by exact h)] at ha; exact ha

theorem g_icmp_ne (hX : Cx Z X cc nL own R0) {x y : Int32} {off : Int} {t : Nat} {_ : Decidable (x = y)} {A B : Option α} (hd : decode cc pc = .ok (.if_icmp .ne off, 3) ∧ pc + 3 = q ∧ (pc : Int) + off = (t : Int))  (kf : x = y → G k B (J Z X nL cm mm lm q lv st)) (kt : ¬ (x = y) → G k A (J Z X nL cm mm lm t lv st)) : G k (if x = y then B else A) (J Z X nL cm mm lm pc lv (.int y :: .int x :: st)) := by
  obtain ⟨hx, hb, hml, hown, hts, hK, rfl, hc, hs, hbz⟩ := hX
  obtain ⟨hd, rfl, ht⟩ := hd
  intro a ha hk H locs ls hP hS hl
  refine lv_icmp_ne hx hb hd ht (fun h => kt h a ?_ hk H locs ls hP hS hl) (fun h => kf h a ?_ hk H locs ls hP hS hl)
  · rw [if_neg h] at ha; exact ha
  · rw [if_pos h] at ha; exact ha

theorem g_if_ne (hX : Cx Z X cc nL own R0) {x : Int32} {off : Int} {t : Nat} {_ : Decidable (x = 0)} {A B : Option α} (hd : decode cc pc = .ok (.ifCond .ne off, 3) ∧ pc + 3 = q ∧ (pc : Int) + off = (t : Int))  (kf : x = 0 → G k B (J Z X nL cm mm lm q lv st)) (kt : ¬ (x = 0) → G k A (J Z X nL cm mm lm t lv st)) : G k (if x = 0 then B else A) (J Z X nL cm mm lm pc lv (.int x :: st)) := by
  obtain ⟨hx, hb, hml, hown, hts, hK, rfl, hc, hs, hbz⟩ := hX
  obtain ⟨hd, rfl, ht⟩ := hd
  intro a ha hk H locs ls hP hS hl
  refine lv_if_ne hx hb hd ht (fun h => kt h a ?_ hk H locs ls hP hS hl) (fun h => kf h a ?_ hk H locs ls hP hS hl)
  · rw [if_neg h] at ha; exact ha
  · rw [if_pos h] at ha; exact ha

theorem g_icmp_lt (hX : Cx Z X cc nL own R0) {x y : Int32} {off : Int} {t : Nat} {_ : Decidable (x < y)} {A B : Option α} (hd : decode cc pc = .ok (.if_icmp .lt off, 3) ∧ pc + 3 = q ∧ (pc : Int) + off = (t : Int))  (kt : x < y → G k A (J Z X nL cm mm lm t lv st)) (kf : ¬ (x < y) → G k B (J Z X nL cm mm lm q lv st)) : G k (if x < y then A else B) (J Z X nL cm mm lm pc lv (.int y :: .int x :: st)) := by
  obtain ⟨hx, hb, hml, hown, hts, hK, rfl, hc, hs, hbz⟩ := hX
  obtain ⟨hd, rfl, ht⟩ := hd
  intro a ha hk H locs ls hP hS hl
  refine lv_icmp_lt hx hb hd ht (fun h => kt ?_ a ?_ hk H locs ls hP hS hl) (fun h => kf ?_ a ?_ hk H locs ls hP hS hl)
  · exact h
  · rw [if_pos (by exact h)] at ha; exact ha
  · exact h
  · rw [if_neg (by exact h)] at ha; exact ha

theorem g_if_lt (hX : Cx Z X cc nL own R0) {x : Int32} {off : Int} {t : Nat} {_ : Decidable (x < 0)} {A B : Option α} (hd : decode cc pc = .ok (.ifCond .lt off, 3) ∧ pc + 3 = q ∧ (pc : Int) + off = (t : Int))  (kt : x < 0 → G k A (J Z X nL cm mm lm t lv st)) (kf : ¬ (x < 0) → G k B (J Z X nL cm mm lm q lv st)) : G k (if x < 0 then A else B) (J Z X nL cm mm lm pc lv (.int x :: st)) := by
  obtain ⟨hx, hb, hml, hown, hts, hK, rfl, hc, hs, hbz⟩ := hX
  obtain ⟨hd, rfl, ht⟩ := hd
  intro a ha hk H locs ls hP hS hl
  refine lv_if_lt hx hb hd ht (fun h => kt ?_ a ?_ hk H locs ls hP hS hl) (fun h => kf ?_ a ?_ hk H locs ls hP hS hl)
  · exact h
  · rw [if_pos (by exact h)] at ha; exact ha
  · exact h
  · rw [if_neg (by exact h)] at ha; exact ha

theorem g_icmp_ge (hX : Cx Z X cc nL own R0) {x y : Int32} {off : Int} {t : Nat} {_ : Decidable (y ≤ x)} {A B : Option α} (hd : decode cc pc = .ok (.if_icmp .ge off, 3) ∧ pc + 3 = q ∧ (pc : Int) + off = (t : Int))  (kt : y ≤ x → G k A (J Z X nL cm mm lm t lv st)) (kf : ¬ (y ≤ x) → G k B (J Z X nL cm mm lm q lv st)) : G k (if y ≤ x then A else B) (J Z X nL cm mm lm pc lv (.int y :: .int x :: st)) := by
  obtain ⟨hx, hb, hml, hown, hts, hK, rfl, hc, hs, hbz⟩ := hX
  obtain ⟨hd, rfl, ht⟩ := hd
  intro a ha hk H locs ls hP hS hl
  refine lv_icmp_ge hx hb hd ht (fun h => kt ?_ a ?_ hk H locs ls hP hS hl) (fun h => kf ?_ a ?_ hk H locs ls hP hS hl)
  · exact h
  · rw [if_pos (by exact h)] at ha; exact ha
  · exact h
  · rw [if_neg (by exact h)] at ha; exact ha

theorem g_if_ge (hX : Cx Z X cc nL own R0) {x : Int32} {off : Int} {t : Nat} {_ : Decidable (0 ≤ x)} {A B : Option α} (hd : decode cc pc = .ok (.ifCond .ge off, 3) ∧ pc + 3 = q ∧ (pc : Int) + off = (t : Int))  (kt : 0 ≤ x → G k A (J Z X nL cm mm lm t lv st)) (kf : ¬ (0 ≤ x) → G k B (J Z X nL cm mm lm q lv st)) : G k (if 0 ≤ x then A else B) (J Z X nL cm mm lm pc lv (.int x :: st)) := by
  obtain ⟨hx, hb, hml, hown, hts, hK, rfl, hc, hs, hbz⟩ := hX
  obtain ⟨hd, rfl, ht⟩ := hd
  intro a ha hk H locs ls hP hS hl
  refine lv_if_ge hx hb hd ht (fun h => kt ?_ a ?_ hk H locs ls hP hS hl) (fun h => kf ?_ a ?_ hk H locs ls hP hS hl)
  · exact h
  · rw [if_pos (by exact h)] at ha; exact ha
  · exact h
  · rw [if_neg (by exact h)] at ha; exact ha

theorem g_icmp_gt (hX : Cx Z X cc nL own R0) {x y : Int32} {off : Int} {t : Nat} {_ : Decidable (y < x)} {A B : Option α} (hd : decode cc pc = .ok (.if_icmp .gt off, 3) ∧ pc + 3 = q ∧ (pc : Int) + off = (t : Int))  (kt : y < x → G k A (J Z X nL cm mm lm t lv st)) (kf : ¬ (y < x) → G k B (J Z X nL cm mm lm q lv st)) : G k (if y < x then A else B) (J Z X nL cm mm lm pc lv (.int y :: .int x :: st)) := by
  obtain ⟨hx, hb, hml, hown, hts, hK, rfl, hc, hs, hbz⟩ := hX
  obtain ⟨hd, rfl, ht⟩ := hd
  intro a ha hk H locs ls hP hS hl
  refine lv_icmp_gt hx hb hd ht (fun h => kt ?_ a ?_ hk H locs ls hP hS hl) (fun h => kf ?_ a ?_ hk H locs ls hP hS hl)
  · exact h
  · rw [if_pos (by exact h)] at ha; exact ha
  · exact h
  · rw [if_neg (by exact h)] at ha; exact ha

theorem g_if_gt (hX : Cx Z X cc nL own R0) {x : Int32} {off : Int} {t : Nat} {_ : Decidable (0 < x)} {A B : Option α} (hd : decode cc pc = .ok (.ifCond .gt off, 3) ∧ pc + 3 = q ∧ (pc : Int) + off = (t : Int))  (kt : 0 < x → G k A (J Z X nL cm mm lm t lv st)) (kf : ¬ (0 < x) → G k B (J Z X nL cm mm lm q lv st)) : G k (if 0 < x then A else B) (J Z X nL cm mm lm pc lv (.int x :: st)) := by
  obtain ⟨hx, hb, hml, hown, hts, hK, rfl, hc, hs, hbz⟩ := hX
  obtain ⟨hd, rfl, ht⟩ := hd
  intro a ha hk H locs ls hP hS hl
  refine lv_if_gt hx hb hd ht (fun h => kt ?_ a ?_ hk H locs ls hP hS hl) (fun h => kf ?_ a ?_ hk H locs ls hP hS hl)
  · exact h
  · rw [if_pos (by exact h)] at ha; exact ha
  · exact h
  · rw [if_neg (by exact h)] at ha; exact ha

theorem g_icmp_le (hX : Cx Z X cc nL own R0) {x y : Int32} {off : Int} {t : Nat} {_ : Decidable (x ≤ y)} {A B : Option α} (hd : decode cc pc = .ok (.if_icmp .le off, 3) ∧ pc + 3 = q ∧ (pc : Int) + off = (t : Int))  (kt : x ≤ y → G k A (J Z X nL cm mm lm t lv st)) (kf : ¬ (x ≤ y) → G k B (J Z X nL cm mm lm q lv st)) : G k (if x ≤ y then A else B) (J Z X nL cm mm lm pc lv (.int y :: .int x :: st)) := by
  obtain ⟨hx, hb, hml, hown, hts, hK, rfl, hc, hs, hbz⟩ := hX
  obtain ⟨hd, rfl, ht⟩ := hd
  intro a ha hk H locs ls hP hS hl
  refine lv_icmp_le hx hb hd ht (fun h => kt ?_ a ?_ hk H locs ls hP hS hl) (fun h => kf ?_ a ?_ hk H locs ls hP hS hl)
  · exact h
  · rw [if_pos (by exact h)] at ha; exact ha
  · exact h
  · rw [if_neg (by exact h)] at ha; exact ha

theorem g_if_le (hX : Cx Z X cc nL own R0) {x : Int32} {off : Int} {t : Nat} {_ : Decidable (x ≤ 0)} {A B : Option α} (hd : decode cc pc = .ok (.ifCond .le off, 3) ∧ pc + 3 = q ∧ (pc : Int) + off = (t : Int))  (kt : x ≤ 0 → G k A (J Z X nL cm mm lm t lv st)) (kf : ¬ (x ≤ 0) → G k B (J Z X nL cm mm lm q lv st)) : G k (if x ≤ 0 then A else B) (J Z X nL cm mm lm pc lv (.int x :: st)) := by
  obtain ⟨hx, hb, hml, hown, hts, hK, rfl, hc, hs, hbz⟩ := hX
  obtain ⟨hd, rfl, ht⟩ := hd
  intro a ha hk H locs ls hP hS hl
  refine lv_if_le hx hb hd ht (fun h => kt ?_ a ?_ hk H locs ls hP hS hl) (fun h => kf ?_ a ?_ hk H locs ls hP hS hl)
  · exact h
  · rw [if_pos (by exact h)] at ha; exact ha
  · exact h
  · rw [if_neg (by exact h)] at ha; exact ha
def wk : List (Option Value) → List (Option Value) → Prop
  | [], _ => True
  | _ :: _, [] => False
  | none :: a, _ :: b => wk a b
  | some v :: a, x :: b => x = some v ∧ wk a b
theorem wk_lk : ∀ (a b : List (Option Value)), wk a b → ∀ i v, lkv a i = some v → lkv b i = some v
  | [], _, _, _, _, h => by simp [lkv] at h
  | none :: _, _, _, 0, _, h => by simp [lkv] at h
  | none :: _, [], hw, _, _, _ => hw.elim
  | some _ :: _, [], hw, _, _, _ => hw.elim
  | none :: a, _ :: b, hw, i + 1, v, h => wk_lk a b hw i v h
  | some w :: a, x :: b, hw, 0, v, h => by
    have e : w = v := by simpa [lkv] using h
    subst e
    exact hw.1
  | some w :: a, x :: b, hw, i + 1, v, h => wk_lk a b hw.2 i v h
theorem J_wk {lv0 : List (Option Value)} (h : wk lv0 lv) (g : J Z X nL cm mm lm pc lv0 st) : J Z X nL cm mm lm pc lv st :=
  fun H locs ls hP hS hl => g H locs ls hP hS ⟨hl.1, hl.2.1, fun i v hi => hl.2.2 i v (wk_lk _ _ h i v hi)⟩
theorem g_wk {lv0 : List (Option Value)} (h : wk lv0 lv) (g : G k o (J Z X nL cm mm lm pc lv0 st)) : G k o (J Z X nL cm mm lm pc lv st) := g_nop (J_wk h) g
end Rows
