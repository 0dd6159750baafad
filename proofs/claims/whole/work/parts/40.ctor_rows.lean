/-! CONSTRUCTORS: the world grows cell by cell: JN over a list of what the cells from the first address on hold (pre: older cells; L: those of this constructor) -/
def NW2 (U : State) : Prop := va_Nw (.methodLinkNest RX6 25 yX0_init "KeptSeats") U ∧ va_Nw (.methodLinkNest RX0 43 yX5_init "KeptSeats") U ∧ va_Nw (.methodLinkNest RX6 38 yX1_init "KeptSeats") U ∧ va_AO "KeptSeats$Office" U ∧ NW U
theorem NW2.warm {s U : State} (hW : s.WarmedH U.vm) (h : NW2 s) : NW2 U := ⟨h.1.warmM hW, h.2.1.warmM hW, h.2.2.1.warmM hW, h.2.2.2.1.moved hW.alike, h.2.2.2.2.warm hW⟩
theorem NW2.same {s U : State} (hv : s.vm = U.vm) (h : NW2 s) : NW2 U := ⟨h.1.same rfl hv, h.2.1.same rfl hv, h.2.2.1.same rfl hv, h.2.2.2.1.moved (by rw [hv]; exact Vm.Alike.refl _), h.2.2.2.2.same hv⟩
theorem oi_i : Cond.instanceMethod Lib.objectInit ∈ Gt := gt_at 18 (by decide +kernel) (by decide +kernel)
theorem oi_c : Cond.code Lib.objectInit ⟨#[0xb1]⟩ 1 none ∈ Gt := gt_at 19 (by decide +kernel) (by decide +kernel)
def wls (b : Nat) (es : List va_E) : va_W := es.mapIdx fun i e => (b + i, e)
theorem wls_at (b : Nat) (es : List va_E) (i : Nat) : (wls b es)[i]? = (es[i]?).map fun e => (b + i, e) := by simp [wls]
theorem wls_set (b : Nat) (es : List va_E) (i : Nat) (e : va_E) : (wls b es).set i (b + i, e) = wls b (es.set i e) := by
  apply List.ext_getElem?
  intro k
  rw [List.getElem?_set, wls_at, wls_at, List.getElem?_set]
  by_cases h : i = k
  · subst h
    simp only [wls, List.length_mapIdx, if_true]
    split <;> rfl
  · rw [if_neg h, if_neg h]
theorem wls_push (b : Nat) (es : List va_E) (e : va_E) : wls b es ++ [(b + es.length, e)] = wls b (es ++ [e]) := by simp [wls, List.mapIdx_append]
theorem wls_D (b : Nat) (es : List va_E) : va_D (fun q => b ≤ q) (wls b es) := by
  have key : ∀ (i : Nat) (p : Nat × va_E), (wls b es)[i]? = some p → p.1 = b + i := by
    intro i p h
    rw [wls_at] at h
    obtain ⟨e, he, h⟩ := Option.map_eq_some_iff.mp h
    rw [← h]
  refine ⟨fun i j p q hp hq e => ?_, fun k q h => ?_⟩
  · have a := key i p hp
    have b := key j q hq
    omega
  · show b ≤ q.1
    rw [key k q h]; exact Nat.le_add_right _ _
theorem pl_at (pre L : List va_E) (j : Nat) : (pre ++ L)[pre.length + j]? = L[j]? := by
  rw [List.getElem?_append_right (Nat.le_add_right _ _), Nat.add_sub_cancel_left]
theorem pl_set (pre L : List va_E) (j : Nat) (e : va_E) : (pre ++ L).set (pre.length + j) e = pre ++ L.set j e := by
  rw [List.set_append_right _ _ (Nat.le_add_right _ _), Nat.add_sub_cancel_left]
def an (Z : ZC) (pre : List va_E) (j : Nat) : Nat := zb Z + (pre.length + j)
def JN (Z : ZC) (X : XC) (nL : Nat) (pre L : List va_E) (cells slots : Nat) (pc : Nat) (lv : List (Option Value)) (st : List Value) : Prop :=
  ∀ (H : Heap) (locs : List Loc) (ls : Array Slot), va_P (zD Z) vwCl (wls (zb Z) (pre ++ L)) H → va_S (fun q => zb Z ≤ q) X.2.2.2.1.heap H locs → hasL ls nL lv →
    W X.1 (zl Z) X.2.1 X.2.2.1 X.2.2.2.1 X.2.2.2.2.1 X.2.2.2.2.2.1 X.2.2.2.2.2.2.1 X.2.2.2.2.2.2.2.1 X.2.2.2.2.2.2.2.2.1 H locs cells slots X.2.2.2.2.2.2.2.2.2.1 (F0 X.2.2.2.2.1 pc ls st)
/-- what a constructor's body knows -/
def CxN (Z : ZC) (X : XC) (cc : ByteArray) (nL : Nat) (own : String) (R0 : Room) : Prop := Cx Z X cc nL own R0 ∧ NW2 X.2.2.2.1
def PmN (Z : ZC) (av : List Value) (es : List va_E) : Array Value → State → Prop := fun v U =>
  v = av.toArray ∧ U.heap.size = zb Z + es.length ∧ va_P (zD Z) vwCl (wls (zb Z) es) U.heap ∧ va_K (zD Z) vwCl (ztys Z) U ∧ NW2 U
def QmN (Z : ZC) (es : List va_E) : Array Value → State → Outcome → State → Prop := fun _ st oc t =>
  oc = .returned none ∧ va_P (zD Z) vwCl (wls (zb Z) es) t.heap ∧ va_K (zD Z) vwCl (ztys Z) t ∧ va_F (fun q => zb Z ≤ q) st t
theorem PmN_blind (Z : ZC) (av : List Value) (es : List va_E) : FrameBlind (PmN Z av es) := by
  intro a U g mk h
  obtain ⟨h1, h2, h3, h4, h5⟩ := h
  exact ⟨h1, h2, h3, va_K.moved (u := U) (U := U.calling g mk a) (Vm.Alike.refl U.vm) h4, h5.same rfl⟩
def CtN (Z : ZC) (y : MethodName) (cc : ByteArray) (maxL : Nat) (rm : Room) (av : List Value) (es es' : List va_E) (mc ms : Nat) : Prop :=
  Met (zl Z) y (Cond.code y cc maxL none :: Gt) rm (PmN Z av es) (QmN Z es') mc ms (fun q => zb Z ≤ q)
def FxN (Z : ZC) (X : XC) (es : List va_E) (mc ms : Nat) : Prop :=
  X.2.2.2.2.2.2.2.1.sig.returnType = none ∧ X.2.2.2.2.2.2.2.1.locks = false ∧ X.2.2.2.2.2.2.2.2.2.1 = MQ X.2.2.2.2.2.2.1 (QmN Z es) X.2.2.2.2.2.1 X.2.2.2.1 mc ms (fun q => zb Z ≤ q)
theorem CtN_of {Z : ZC} {y : MethodName} {cc : ByteArray} {maxL mc ms : Nat} {rm : Room} {av : List Value} {pre L es' : List va_E} {own : String} (lv : List (Option Value)) (hy : plainName y.cls = true ∧ y.cls = own) (hc : av.all (fun v => v.category == 1) = true) (hn : av.length ≤ maxL) (hl : av.map some ++ List.replicate (maxL - av.length) none = lv)
    (body : ∀ X : XC, CxN Z X cc maxL own rm → X.2.2.2.2.2.2.2.1.name = y.name → X.2.2.2.1.heap.size = zb Z + (pre ++ L).length → FxN Z X es' mc ms → JN Z X maxL pre L 0 0 0 lv []) : CtN Z y cc maxL rm av (pre ++ L) es' mc ms := by
  refine Met.ofW (cc := cc) (maxL := maxL) (ret := none) hy.1 rfl ?_
  intro p e s m args below meth c s₁ B hml hv
  obtain ⟨rfl, hz, hP, hK, hb⟩ := hv
  have hts := atoms_spec (ws := Cond.code y cc maxL none :: Gt) B.pre
  have hown : s.vm.findClass own = some m.cls := by rw [← hy.2]; exact findClass_of_methodNamed B.named
  have hin : meth.name = y.name := (name_of_methodNamed B.named B.method).1
  have K := body (p, e, (headSpec (Cond.code y cc maxL none :: Gt) rm).room, s, m, av.toArray, below, meth, c, MQ below (QmN Z es') av.toArray s mc ms (fun q => zb Z ≤ q), 0, 0)
    ⟨⟨B.exec, B.bytes, hml, hown, fun w hw => hts w (List.mem_cons_of_mem _ hw), hK, rfl, Nat.zero_le _, Nat.zero_le _, by show zb Z ≤ s.heap.size; rw [hz]; exact Nat.le_add_right _ _, hb.2.2.2.2⟩, hb⟩ hin hz ⟨B.returns, B.notSynchronized, rfl⟩
  rw [lg_entry_eq]
  exact K s.heap [] _ hP va_S.rf (hasL_entry hc hn hl)
theorem JN_sz {Z : ZC} {X : XC} {es : List va_E} {cells slots : Nat} {H : Heap} {locs : List Loc} {T : State} (hn : X.2.2.2.1.heap.size + cells = zb Z + es.length) (hT : T.heap = H) (X0 : Stand X.1 (zl Z) X.2.1 X.2.2.1 X.2.2.2.1 X.2.2.2.2.1 X.2.2.2.2.2.1 X.2.2.2.2.2.2.1 X.2.2.2.2.2.2.2.1 X.2.2.2.2.2.2.2.2.1 T locs cells slots) (hP : va_P (zD Z) vwCl (wls (zb Z) es) H) (hS : va_S (fun q => zb Z ≤ q) X.2.2.2.1.heap H locs) (hbz : zb Z ≤ X.2.2.2.1.heap.size) : H.size = zb Z + es.length := by
  have h1 := X0.heapSize
  rw [hT] at h1
  have h2 := hS.1
  cases he : es.length with
  | zero => omega
  | succ n =>
    have hlt : n < es.length := by omega
    have h3 := (hP n (zb Z + n, es[n]) (by rw [wls_at, List.getElem?_eq_getElem hlt]; rfl)).lt
    have h4 : zb Z + n < H.size := h3
    omega
section RowsN
variable {Z : ZC} {X : XC} {cc : ByteArray} {nL : Nat} {own : String} {R0 : Room} {pre L L' : List va_E} {cells slots pc q i : Nat} {lv : List (Option Value)} {st : List Value}
theorem JN_eq {c' s' : Nat} (hL : L = L') (hc : cells = c') (hs : slots = s') (g : JN Z X nL pre L' c' s' pc lv st) : JN Z X nL pre L cells slots pc lv st := by subst hL; subst hc; subst hs; exact g
theorem JN_wk {lv0 : List (Option Value)} (h : wk lv0 lv) (g : JN Z X nL pre L cells slots pc lv0 st) : JN Z X nL pre L cells slots pc lv st :=
  fun H locs ls hP hS hl => g H locs ls hP hS ⟨hl.1, hl.2.1, fun i v hi => hl.2.2 i v (wk_lk _ _ h i v hi)⟩
theorem n_iconst (hX : CxN Z X cc nL own R0) {n : Int} {v : Int32} (hd : decode cc pc = .ok (.iconst n, 1) ∧ pc + 1 = q) (hv : Int32.ofInt n = v) (kk : JN Z X nL pre L cells slots q lv (.int v :: st)) : JN Z X nL pre L cells slots pc lv (st) := by
  obtain ⟨⟨hx, hb, hml, hown, hts, hK, rfl, hc, hs, hbz⟩, hnw⟩ := hX
  obtain ⟨hd, rfl⟩ := hd
  intro H locs ls hP hS hl
  exact lv_iconst hx hb hd hv (kk H locs ls hP hS hl)
theorem n_bipush (hX : CxN Z X cc nL own R0) {n : Int} {v : Int32} (hd : decode cc pc = .ok (.bipush n, 2) ∧ pc + 2 = q) (hv : (Int8.ofInt n).toInt32 = v) (kk : JN Z X nL pre L cells slots q lv (.int v :: st)) : JN Z X nL pre L cells slots pc lv (st) := by
  obtain ⟨⟨hx, hb, hml, hown, hts, hK, rfl, hc, hs, hbz⟩, hnw⟩ := hX
  obtain ⟨hd, rfl⟩ := hd
  intro H locs ls hP hS hl
  exact lv_bipush hx hb hd hv (kk H locs ls hP hS hl)
theorem n_sipush (hX : CxN Z X cc nL own R0) {n : Int} {v : Int32} (hd : decode cc pc = .ok (.sipush n, 3) ∧ pc + 3 = q) (hv : (Int16.ofInt n).toInt32 = v) (kk : JN Z X nL pre L cells slots q lv (.int v :: st)) : JN Z X nL pre L cells slots pc lv (st) := by
  obtain ⟨⟨hx, hb, hml, hown, hts, hK, rfl, hc, hs, hbz⟩, hnw⟩ := hX
  obtain ⟨hd, rfl⟩ := hd
  intro H locs ls hP hS hl
  exact lv_sipush hx hb hd hv (kk H locs ls hP hS hl)
theorem n_iload_n (hX : CxN Z X cc nL own R0) {n : Fin 4} {x : Int32} (hd : decode cc pc = .ok (.iload_n n, 1) ∧ pc + 1 = q) (hi : (n : Nat) = i) (hv : lkv lv i = some (.int x)) (kk : JN Z X nL pre L cells slots q lv (.int x :: st)) : JN Z X nL pre L cells slots pc lv (st) := by
  obtain ⟨⟨hx, hb, hml, hown, hts, hK, rfl, hc, hs, hbz⟩, hnw⟩ := hX
  obtain ⟨hd, rfl⟩ := hd
  intro H locs ls hP hS hl
  exact lv_iload_n hx hb hd hi (hl.2.2 i _ hv) (kk H locs ls hP hS hl)
theorem n_aload_n (hX : CxN Z X cc nL own R0) {n : Fin 4} {x : Nat} (hd : decode cc pc = .ok (.aload_n n, 1) ∧ pc + 1 = q) (hi : (n : Nat) = i) (hv : lkv lv i = some (.ref x)) (kk : JN Z X nL pre L cells slots q lv (.ref x :: st)) : JN Z X nL pre L cells slots pc lv (st) := by
  obtain ⟨⟨hx, hb, hml, hown, hts, hK, rfl, hc, hs, hbz⟩, hnw⟩ := hX
  obtain ⟨hd, rfl⟩ := hd
  intro H locs ls hP hS hl
  exact lv_aload_n hx hb hd hi (hl.2.2 i _ hv) (kk H locs ls hP hS hl)
theorem n_istore_n (hX : CxN Z X cc nL own R0) {n : Fin 4} {x : Int32} (hd : decode cc pc = .ok (.istore_n n, 1) ∧ pc + 1 = q) (hi : (n : Nat) = i) (hn : i < nL) (hc2 : ctk lv i = true) (kk : JN Z X nL pre L cells slots q (stv lv i (some (.int x))) (st)) : JN Z X nL pre L cells slots pc lv (.int x :: st) := by
  obtain ⟨⟨hx, hb, hml, hown, hts, hK, rfl, hc, hs, hbz⟩, hnw⟩ := hX
  obtain ⟨hd, rfl⟩ := hd
  intro H locs ls hP hS hl
  exact lv_istore_n hx hb hd hi hl.kit hn rfl (fun ls' hl' => kk H locs ls' hP hS (hasL.st hc2 hl'))
theorem n_astore_n (hX : CxN Z X cc nL own R0) {n : Fin 4} {x : Nat} (hd : decode cc pc = .ok (.astore_n n, 1) ∧ pc + 1 = q) (hi : (n : Nat) = i) (hn : i < nL) (hc2 : ctk lv i = true) (kk : JN Z X nL pre L cells slots q (stv lv i (some (.ref x))) (st)) : JN Z X nL pre L cells slots pc lv (.ref x :: st) := by
  obtain ⟨⟨hx, hb, hml, hown, hts, hK, rfl, hc, hs, hbz⟩, hnw⟩ := hX
  obtain ⟨hd, rfl⟩ := hd
  intro H locs ls hP hS hl
  exact lv_astore_n hx hb hd hi hl.kit hn rfl (fun ls' hl' => kk H locs ls' hP hS (hasL.st hc2 hl'))
theorem n_iload (hX : CxN Z X cc nL own R0) {x : Int32} (hd : decode cc pc = .ok (.iload i, 2) ∧ pc + 2 = q) (hv : lkv lv i = some (.int x)) (kk : JN Z X nL pre L cells slots q lv (.int x :: st)) : JN Z X nL pre L cells slots pc lv (st) := by
  obtain ⟨⟨hx, hb, hml, hown, hts, hK, rfl, hc, hs, hbz⟩, hnw⟩ := hX
  obtain ⟨hd, rfl⟩ := hd
  intro H locs ls hP hS hl
  exact lv_iload hx hb hd (hl.2.2 i _ hv) (kk H locs ls hP hS hl)
theorem n_istore (hX : CxN Z X cc nL own R0) {x : Int32} (hd : decode cc pc = .ok (.istore i, 2) ∧ pc + 2 = q) (hn : i < nL) (hc2 : ctk lv i = true) (kk : JN Z X nL pre L cells slots q (stv lv i (some (.int x))) (st)) : JN Z X nL pre L cells slots pc lv (.int x :: st) := by
  obtain ⟨⟨hx, hb, hml, hown, hts, hK, rfl, hc, hs, hbz⟩, hnw⟩ := hX
  obtain ⟨hd, rfl⟩ := hd
  intro H locs ls hP hS hl
  exact lv_istore hx hb hd hl.kit hn rfl (fun ls' hl' => kk H locs ls' hP hS (hasL.st hc2 hl'))
theorem n_if_lt (hX : CxN Z X cc nL own R0) {x : Int32} {off : Int} {t : Nat} (hd : decode cc pc = .ok (.ifCond .lt off, 3) ∧ pc + 3 = q ∧ (pc : Int) + off = (t : Int)) (kt : x < 0 → JN Z X nL pre L cells slots t lv st) (kf : ¬ (x < 0) → JN Z X nL pre L cells slots q lv st) : JN Z X nL pre L cells slots pc lv (.int x :: st) := by
  obtain ⟨⟨hx, hb, hml, hown, hts, hK, rfl, hc, hs, hbz⟩, hnw⟩ := hX
  obtain ⟨hd, rfl, ht⟩ := hd
  intro H locs ls hP hS hl
  exact lv_if_lt hx hb hd ht (fun h => kt h H locs ls hP hS hl) (fun h => kf h H locs ls hP hS hl)
theorem n_iadd (hX : CxN Z X cc nL own R0) {x y : Int32} (hd : decode cc pc = .ok (.iadd, 1) ∧ pc + 1 = q)  (kk : JN Z X nL pre L cells slots q lv (.int (x + y) :: st)) : JN Z X nL pre L cells slots pc lv (.int y :: .int x :: st) := by
  obtain ⟨⟨hx, hb, hml, hown, hts, hK, rfl, hc, hs, hbz⟩, hnw⟩ := hX
  obtain ⟨hd, rfl⟩ := hd
  intro H locs ls hP hS hl
  exact lv_iadd hx hb hd (kk H locs ls hP hS hl)
theorem n_dup (hX : CxN Z X cc nL own R0) {v : Value} (hd : decode cc pc = .ok (.dup, 1) ∧ pc + 1 = q) (hv : v.category = 1) (kk : JN Z X nL pre L cells slots q lv (v :: v :: st)) : JN Z X nL pre L cells slots pc lv (v :: st) := by
  obtain ⟨⟨hx, hb, hml, hown, hts, hK, rfl, hc, hs, hbz⟩, hnw⟩ := hX
  obtain ⟨hd, rfl⟩ := hd
  intro H locs ls hP hS hl
  exact lv_dup hx hb hd hv (kk H locs ls hP hS hl)
theorem n_iinc (hX : CxN Z X cc nL own R0) {n : Int} {x d : Int32} (hd : decode cc pc = .ok (.iinc i n, 3) ∧ pc + 3 = q) (he : Int32.ofInt n = d) (hv : lkv lv i = some (.int x)) (hn : i < nL) (hc2 : ctk lv i = true) (kk : JN Z X nL pre L cells slots q (stv lv i (some (.int (x + d)))) st) : JN Z X nL pre L cells slots pc lv st := by
  obtain ⟨⟨hx, hb, hml, hown, hts, hK, rfl, hc, hs, hbz⟩, hnw⟩ := hX
  obtain ⟨hd, rfl⟩ := hd
  intro H locs ls hP hS hl
  obtain ⟨j, hj⟩ := List.getElem?_of_mem (mem_prs lv 0 i _ hv)
  rw [Nat.zero_add] at hj
  exact lv_iinc hx hb hd hl.kit hj (by rw [he]) hn rfl (fun ls' hl' => kk H locs ls' hP hS (hasL.st hc2 hl'))
theorem n_goto (hX : CxN Z X cc nL own R0) {off : Int} {t : Nat} (hd : decode cc pc = .ok (.goto off, 3) ∧ (pc : Int) + off = (t : Int)) (kk : JN Z X nL pre L cells slots t lv st) : JN Z X nL pre L cells slots pc lv st := by
  obtain ⟨⟨hx, hb, hml, hown, hts, hK, rfl, hc, hs, hbz⟩, hnw⟩ := hX
  obtain ⟨hd, ht⟩ := hd
  intro H locs ls hP hS hl
  exact lv_goto hx hb hd ht (kk H locs ls hP hS hl)
theorem n_icmp_ge (hX : CxN Z X cc nL own R0) {x y : Int32} {off : Int} {t : Nat} (hd : decode cc pc = .ok (.if_icmp .ge off, 3) ∧ pc + 3 = q ∧ (pc : Int) + off = (t : Int)) (kt : y ≤ x → JN Z X nL pre L cells slots t lv st) (kf : ¬ (y ≤ x) → JN Z X nL pre L cells slots q lv st) : JN Z X nL pre L cells slots pc lv (.int y :: .int x :: st) := by
  obtain ⟨⟨hx, hb, hml, hown, hts, hK, rfl, hc, hs, hbz⟩, hnw⟩ := hX
  obtain ⟨hd, rfl, ht⟩ := hd
  intro H locs ls hP hS hl
  exact lv_icmp_ge hx hb hd ht (fun h => kt h H locs ls hP hS hl) (fun h => kf h H locs ls hP hS hl)
theorem n_oinit (hX : CxN Z X cc nL own R0) {idx a : Nat} (hd : decode cc pc = .ok (.invokespecial idx, 3) ∧ pc + 3 = q) (w1 : Cond.methodLink own idx Lib.objectInit ∈ Gt) (hf : Nat.ble 1 R0.frames = true) (hlo : Nat.ble 20 R0.locals = true) (hsum : (st.map fun v => v.category).sum ≤ 8) (kk : JN Z X nL pre L cells slots q lv st) : JN Z X nL pre L cells slots pc lv (.ref a :: st) := by
  obtain ⟨⟨hx, hb, hml, hown, hts, hK, rfl, hc, hs, hbz⟩, hnw⟩ := hX
  obtain ⟨hd, rfl⟩ := hd
  intro H locs ls hP hS hl
  have g1 := Nat.le_of_ble_eq_true hf
  have g2 := Nat.le_of_ble_eq_true hlo
  have hm0 : (F0 X.2.2.2.2.1 pc ls (.ref a :: st)).monitorRoom = 0 := rfl
  refine W.objInit hx hb hown (hts _ w1) (hts _ oi_i) (hts _ oi_c) rfl (hl.1.trans hml.symm) rfl hd g1 (by rw [hm0]; omega) ?_
  exact W.eq (g2 := F0 X.2.2.2.2.1 (pc + 3) ls st) rfl (kk H locs ls hP hS hl)
theorem n_max (hX : CxN Z X cc nL own R0) {idx : Nat} {x y : Int32} (hd : decode cc pc = .ok (.invokestatic idx, 3) ∧ pc + 3 = q) (w1 : Cond.methodLink own idx Lib.Math.max.name ∈ Gt) (hf : Nat.ble 1 R0.frames = true) (hlo : Nat.ble 21 R0.locals = true) (hsum : (st.map fun v => v.category).sum ≤ 8) (h1 : cells ≤ R0.cells) (h2 : slots ≤ R0.slots) (kk : JN Z X nL pre L cells slots q lv (.int (if x < y then y else x) :: st)) : JN Z X nL pre L cells slots pc lv (.int y :: .int x :: st) := by
  obtain ⟨⟨hx, hb, hml, hown, hts, hK, rfl, hc, hs, hbz⟩, hnw⟩ := hX
  obtain ⟨hd, rfl⟩ := hd
  intro H locs ls hP hS hl
  have g1 := Nat.le_of_ble_eq_true hf
  have g2 := Nat.le_of_ble_eq_true hlo
  exact va_mmax hx hb (hml.trans hl.1.symm) hown (hts _ w1) (hts _ mm_max_2) (hts _ mm_3) (hts _ mm_max_4) g1 (by omega) h1 h2 hd (kk H locs ls hP hS hl)
theorem n_new (hX : CxN Z X cc nL own R0) {idx ci N : Nat} {C : String} {T : u_T} {ty : Nat → FieldType} {fs : List Value} (hd : decode cc pc = .ok (.new idx, 3) ∧ pc + 3 = q) (hC : vwCl[ci]? = some (C, T, N)) (hu : ∀ w ∈ u_ws C T N, w ∈ Gt) (hty : ∀ k, k < N → parseFieldDescriptor (T k).2.2.1 = some (ty k)) (w1 : Cond.classLink own idx C ∈ Gt) (w2 : Cond.instantiable C N ∈ Gt) (w3 : Cond.initialized C ∈ Gt) (hfs : ∀ j, j < N → defaultValue (ty j) = vp_V fs j) (hn0 : X.2.2.2.1.heap.size + cells = zb Z + (pre ++ L).length) (h1 : cells + 1 ≤ R0.cells) (h2 : slots + N ≤ R0.slots)
    (kk : JN Z X nL pre (L ++ [.inr (ci, fs)]) (cells + 1) (slots + N) q lv (.ref (an Z pre L.length) :: st)) : JN Z X nL pre L cells slots pc lv st := by
  obtain ⟨⟨hx, hb, hml, hown, hts, hK, rfl, hc, hs, hbz⟩, hnw⟩ := hX
  obtain ⟨hd, rfl⟩ := hd
  intro H locs ls hP hS hl
  have hKn := hK.1 ci _ hC
  intro T hT X0
  have hz := JN_sz hn0 hT X0 hP hS hbz.1
  revert T
  refine W.newcK hx hb hown (hts _ w1) (hts _ w2) (hts _ w3) rfl hd h1 h2 hKn.2.1 rfl fun H1 kC hkC e1 z1 o1 => ?_
  have hk : ∀ (k : Nat) (x : Nat × va_E), (wls (zb Z) (pre ++ L))[k]? = some x → H1[x.1]? = H[x.1]? := fun k x hx => o1 x.1 ((hP k x hx).lt)
  have hP1 : va_P (zD Z) vwCl (wls (zb Z) (pre ++ L) ++ [(H.size, .inr (ci, fs))]) H1 := (hP.kept hk).app (fun k x hx => by
    have hz : k < 1 := (List.getElem?_eq_some_iff.mp hx).1
    rw [show k = 0 by omega] at hx
    cases hx
    exact ⟨_, hC, (u_born ty hts hu hKn hkC e1 hty).to hfs⟩)
  rw [hz, wls_push, List.append_assoc] at hP1
  have := kk H1 locs ls hP1 ⟨Nat.le_trans hS.1 (by omega), fun x h1 h2 => (o1 x (Nat.lt_of_lt_of_le h1 hS.1)).trans (hS.2.1 x h1 h2), hS.2.2⟩ hl
  rw [show H.size = an Z pre L.length by rw [hz, an, List.length_append]]
  exact this
theorem n_newI (hX : CxN Z X cc nL own R0) {x : Int32} {N : Nat} (hd : decode cc pc = .ok (.newarray .int, 2) ∧ pc + 2 = q) (w1 : Cond.arrayClass .int ∈ Gt) (hn : ¬ x < 0) (hN : x.toNatClampNeg = N) (hN2 : N ≤ 4096) (hn0 : X.2.2.2.1.heap.size + cells = zb Z + (pre ++ L).length) (h1 : cells + 1 ≤ R0.cells) (h2 : slots + N ≤ R0.slots)
    (kk : JN Z X nL pre (L ++ [.inl (zI Z, (N, .inl (fun _ => 0)))]) (cells + 1) (slots + N) q lv (.ref (an Z pre L.length) :: st)) : JN Z X nL pre L cells slots pc lv (.int x :: st) := by
  obtain ⟨⟨hx, hb, hml, hown, hts, hK, rfl, hc, hs, hbz⟩, hnw⟩ := hX
  obtain ⟨hd, rfl⟩ := hd
  intro H locs ls hP hS hl
  intro T hT X0
  have hz := JN_sz hn0 hT X0 hP hS hbz.1
  revert T
  refine va_newaK (atype := .int) hx hb (hts _ w1) rfl hd rfl hn hN (Nat.le_trans (Nat.mul_le_mul hN2 (show componentBytes (newarray.typeOf .int) ≤ 8 by decide)) (by decide)) h1 h2 rfl fun H1 cA e1 z1 o1 hAr hNm => ?_
  have hcA : cA = zI Z := by
    have h9 : X.2.2.2.1.vm.findClass ("[" ++ FieldType.toString .int) = some (zI Z) := (hK.2 0 (zI Z, .int) rfl).2
    exact Option.some.inj (hNm.symm.trans h9)
  subst hcA
  have hk : ∀ (k : Nat) (x : Nat × va_E), (wls (zb Z) (pre ++ L))[k]? = some x → H1[x.1]? = H[x.1]? := fun k x hx => o1 x.1 ((hP k x hx).lt)
  have hP1 : va_P (zD Z) vwCl (wls (zb Z) (pre ++ L) ++ [(H.size, .inl (zI Z, (N, .inl (fun _ => 0))))]) H1 := (hP.kept hk).app (fun k x hx => by
    have hz : k < 1 := (List.getElem?_eq_some_iff.mp hx).1
    rw [show k = 0 by omega] at hx
    cases hx
    exact e1)
  rw [hz, wls_push, List.append_assoc] at hP1
  have := kk H1 locs ls hP1 ⟨Nat.le_trans hS.1 (by omega), fun x h1 h2 => (o1 x (Nat.lt_of_lt_of_le h1 hS.1)).trans (hS.2.1 x h1 h2), hS.2.2⟩ hl
  rw [show H.size = an Z pre L.length by rw [hz, an, List.length_append]]
  exact this
theorem n_newJ (hX : CxN Z X cc nL own R0) {x : Int32} {N : Nat} (hd : decode cc pc = .ok (.newarray .long, 2) ∧ pc + 2 = q) (w1 : Cond.arrayClass .long ∈ Gt) (hn : ¬ x < 0) (hN : x.toNatClampNeg = N) (hN2 : N ≤ 4096) (hn0 : X.2.2.2.1.heap.size + cells = zb Z + (pre ++ L).length) (h1 : cells + 1 ≤ R0.cells) (h2 : slots + N ≤ R0.slots)
    (kk : JN Z X nL pre (L ++ [.inl (zJ Z, (N, .inr (.inl (fun _ => 0))))]) (cells + 1) (slots + N) q lv (.ref (an Z pre L.length) :: st)) : JN Z X nL pre L cells slots pc lv (.int x :: st) := by
  obtain ⟨⟨hx, hb, hml, hown, hts, hK, rfl, hc, hs, hbz⟩, hnw⟩ := hX
  obtain ⟨hd, rfl⟩ := hd
  intro H locs ls hP hS hl
  intro T hT X0
  have hz := JN_sz hn0 hT X0 hP hS hbz.1
  revert T
  refine va_newaK (atype := .long) hx hb (hts _ w1) rfl hd rfl hn hN (Nat.le_trans (Nat.mul_le_mul hN2 (show componentBytes (newarray.typeOf .long) ≤ 8 by decide)) (by decide)) h1 h2 rfl fun H1 cA e1 z1 o1 hAr hNm => ?_
  have hcA : cA = zJ Z := by
    have h9 : X.2.2.2.1.vm.findClass ("[" ++ FieldType.toString .long) = some (zJ Z) := (hK.2 1 (zJ Z, .long) rfl).2
    exact Option.some.inj (hNm.symm.trans h9)
  subst hcA
  have hk : ∀ (k : Nat) (x : Nat × va_E), (wls (zb Z) (pre ++ L))[k]? = some x → H1[x.1]? = H[x.1]? := fun k x hx => o1 x.1 ((hP k x hx).lt)
  have hP1 : va_P (zD Z) vwCl (wls (zb Z) (pre ++ L) ++ [(H.size, .inl (zJ Z, (N, .inr (.inl (fun _ => 0)))))]) H1 := (hP.kept hk).app (fun k x hx => by
    have hz : k < 1 := (List.getElem?_eq_some_iff.mp hx).1
    rw [show k = 0 by omega] at hx
    cases hx
    exact e1)
  rw [hz, wls_push, List.append_assoc] at hP1
  have := kk H1 locs ls hP1 ⟨Nat.le_trans hS.1 (by omega), fun x h1 h2 => (o1 x (Nat.lt_of_lt_of_le h1 hS.1)).trans (hS.2.1 x h1 h2), hS.2.2⟩ hl
  rw [show H.size = an Z pre L.length by rw [hz, an, List.length_append]]
  exact this
theorem n_newZ (hX : CxN Z X cc nL own R0) {x : Int32} {N : Nat} (hd : decode cc pc = .ok (.newarray .boolean, 2) ∧ pc + 2 = q) (w1 : Cond.arrayClass .boolean ∈ Gt) (hn : ¬ x < 0) (hN : x.toNatClampNeg = N) (hN2 : N ≤ 4096) (hn0 : X.2.2.2.1.heap.size + cells = zb Z + (pre ++ L).length) (h1 : cells + 1 ≤ R0.cells) (h2 : slots + N ≤ R0.slots)
    (kk : JN Z X nL pre (L ++ [.inl (zB Z, (N, .inl (fun _ => 0)))]) (cells + 1) (slots + N) q lv (.ref (an Z pre L.length) :: st)) : JN Z X nL pre L cells slots pc lv (.int x :: st) := by
  obtain ⟨⟨hx, hb, hml, hown, hts, hK, rfl, hc, hs, hbz⟩, hnw⟩ := hX
  obtain ⟨hd, rfl⟩ := hd
  intro H locs ls hP hS hl
  intro T hT X0
  have hz := JN_sz hn0 hT X0 hP hS hbz.1
  revert T
  refine va_newaK (atype := .boolean) hx hb (hts _ w1) rfl hd rfl hn hN (Nat.le_trans (Nat.mul_le_mul hN2 (show componentBytes (newarray.typeOf .boolean) ≤ 8 by decide)) (by decide)) h1 h2 rfl fun H1 cA e1 z1 o1 hAr hNm => ?_
  have hcA : cA = zB Z := by
    have h9 : X.2.2.2.1.vm.findClass ("[" ++ FieldType.toString .boolean) = some (zB Z) := (hK.2 2 (zB Z, .boolean) rfl).2
    exact Option.some.inj (hNm.symm.trans h9)
  subst hcA
  have hk : ∀ (k : Nat) (x : Nat × va_E), (wls (zb Z) (pre ++ L))[k]? = some x → H1[x.1]? = H[x.1]? := fun k x hx => o1 x.1 ((hP k x hx).lt)
  have hP1 : va_P (zD Z) vwCl (wls (zb Z) (pre ++ L) ++ [(H.size, .inl (zB Z, (N, .inl (fun _ => 0))))]) H1 := (hP.kept hk).app (fun k x hx => by
    have hz : k < 1 := (List.getElem?_eq_some_iff.mp hx).1
    rw [show k = 0 by omega] at hx
    cases hx
    exact e1)
  rw [hz, wls_push, List.append_assoc] at hP1
  have := kk H1 locs ls hP1 ⟨Nat.le_trans hS.1 (by omega), fun x h1 h2 => (o1 x (Nat.lt_of_lt_of_le h1 hS.1)).trans (hS.2.1 x h1 h2), hS.2.2⟩ hl
  rw [show H.size = an Z pre L.length by rw [hz, an, List.length_append]]
  exact this
theorem n_newO (hX : CxN Z X cc nL own R0) {idx : Nat} {x : Int32} {N : Nat} (hd : decode cc pc = .ok (.anewarray idx, 3) ∧ pc + 3 = q) (w1 : Cond.classLink own idx "KeptSeats$Office" ∈ Gt) (hn : ¬ x < 0) (hN : x.toNatClampNeg = N) (hN2 : N ≤ 4096) (hn0 : X.2.2.2.1.heap.size + cells = zb Z + (pre ++ L).length) (h1 : cells + 1 ≤ R0.cells) (h2 : slots + N ≤ R0.slots)
    (kk : JN Z X nL pre (L ++ [.inl (zO Z, N, .inr (.inr (.inr (.inr (fun _ => none)))))]) (cells + 1) (slots + N) q lv (.ref (an Z pre L.length) :: st)) : JN Z X nL pre L cells slots pc lv (.int x :: st) := by
  obtain ⟨⟨hx, hb, hml, hown, hts, hK, rfl, hc, hs, hbz⟩, hnw⟩ := hX
  obtain ⟨hd, rfl⟩ := hd
  subst hN
  intro H locs ls hP hS hl
  intro T hT X0
  have hz := JN_sz hn0 hT X0 hP hS hbz.1
  revert T
  refine W.anew hx hb hown (hts _ w1) (va_AO.use hnw.2.2.2.1) rfl hd rfl hn (by omega) h1 h2 fun cA kA comp f1 f2 f3 f4 => ?_
  generalize hH1 : H.push ({ cls := cA, slots := Array.replicate x.toNatClampNeg .null, vm := .none } : Cell) = H1
  have z1 : H1.size = H.size + 1 := by rw [← hH1, Array.size_push]
  have e1 : H1[H.size]? = some (arrV cA x.toNatClampNeg (fun _ => .null)) := by rw [← hH1, Array.getElem?_push_size, ← arrV_new]
  have o1 : ∀ q : Nat, q < H.size → H1[q]? = H[q]? := fun q hq => by rw [← hH1, Array.getElem?_push, if_neg (Nat.ne_of_lt hq)]
  have hcA : cA = zO Z := by
    obtain ⟨kA', comp', g1, g2, g3, g4⟩ := (hK.2 3 (zO Z, .object "KeptSeats$Office") rfl).2
    exact Option.some.inj (f1.symm.trans g4)
  subst hcA
  have hk : ∀ (k : Nat) (x : Nat × va_E), (wls (zb Z) (pre ++ L))[k]? = some x → H1[x.1]? = H[x.1]? := fun k x hx => o1 x.1 ((hP k x hx).lt)
  have hP1 : va_P (zD Z) vwCl (wls (zb Z) (pre ++ L) ++ [(H.size, .inl (zO Z, x.toNatClampNeg, .inr (.inr (.inr (.inr (fun _ => none))))))]) H1 := (hP.kept hk).app (fun k x hx => by
    have hz : k < 1 := (List.getElem?_eq_some_iff.mp hx).1
    rw [show k = 0 by omega] at hx
    cases hx
    exact e1)
  rw [hz, wls_push, List.append_assoc] at hP1
  have := kk H1 locs ls hP1 ⟨Nat.le_trans hS.1 (by omega), fun x h1 h2 => (o1 x (Nat.lt_of_lt_of_le h1 hS.1)).trans (hS.2.1 x h1 h2), hS.2.2⟩ hl
  rw [show H.size = an Z pre L.length by rw [hz, an, List.length_append]]
  exact this
theorem n_get (hX : CxN Z X cc nL own R0) {idx ci N j k : Nat} {C : String} {T : u_T} {fs : List Value} {v : Value} (hd : decode cc pc = .ok (.getfield idx, 3) ∧ pc + 3 = q) (hf : FI own idx ci C T N k) (he : L[j]? = some (.inr (ci, fs))) (hv : fs[k]? = some v) (kk : JN Z X nL pre L cells slots q lv (v :: st)) : JN Z X nL pre L cells slots pc lv (.ref (an Z pre j) :: st) := by
  obtain ⟨⟨hx, hb, hml, hown, hts, hK, rfl, hc, hs, hbz⟩, hnw⟩ := hX
  obtain ⟨hd, rfl⟩ := hd
  obtain ⟨f1, f2, f3, f4⟩ := hf
  intro H locs ls hP hS hl
  exact va_get hx hb hts f4 hown hK hP (pre.length + j) (by rw [wls_at, pl_at, he]; rfl) f1 k f2 (hts _ f3) (fun _ h => h) hv hd (kk H locs ls hP hS hl)
theorem n_putF (hX : CxN Z X cc nL own R0) {idx ci N j k : Nat} {C : String} {T : u_T} {fs : List Value} {v : Value} {ty : FieldType} {ty0 : Nat → FieldType} (hin : X.2.2.2.2.2.2.2.1.name = "<init>") (hd : decode cc pc = .ok (.putfield idx, 3) ∧ pc + 3 = q) (hf : FI own idx ci C T N k) (he : L[j]? = some (.inr (ci, fs))) (hty : ∀ k, k < N → parseFieldDescriptor (T k).2.2.1 = some (ty0 k)) (hnm : ∀ a, a < N → ∀ b, b < N → a ≠ b → (T a).2.1 ≠ (T b).2.1) (hfin : (T k).2.2.2 = true) (hdecl : (T k).1 = own) (htj : ty0 k = ty) (hn : narrow ty v = v) (hfit : fits ty v = true) (hlen : k < fs.length)
    (kk : JN Z X nL pre (L.set j (.inr (ci, fs.set k v))) cells slots q lv st) : JN Z X nL pre L cells slots pc lv (v :: .ref (an Z pre j) :: st) := by
  obtain ⟨⟨hx, hb, hml, hown, hts, hK, rfl, hc, hs, hbz⟩, hnw⟩ := hX
  obtain ⟨hd, rfl⟩ := hd
  obtain ⟨f1, f2, f3, f4⟩ := hf
  intro H locs ls hP hS hl
  refine va_putF (ty := ty) hx hb hts f4 ty0 hty hnm hown hK hP (wls_D _ _) hS (pre.length + j) (by rw [wls_at, pl_at, he]; rfl) f1 k f2 (hts _ f3) (fun _ h => h) hfin hin hdecl (by rw [← htj]; exact hty k f2) hn hfit hlen hd (fun H1 locs1 hP1 _ hS1 => ?_)
  refine kk H1 locs1 ls ?_ hS1 hl
  rw [show an Z pre j = zb Z + (pre.length + j) from rfl, wls_set, pl_set] at hP1; exact hP1
theorem n_put (hX : CxN Z X cc nL own R0) {idx ci N j k : Nat} {C : String} {T : u_T} {fs : List Value} {v : Value} {ty : FieldType} {ty0 : Nat → FieldType} (hd : decode cc pc = .ok (.putfield idx, 3) ∧ pc + 3 = q) (hf : FI own idx ci C T N k) (he : L[j]? = some (.inr (ci, fs))) (hty : ∀ k, k < N → parseFieldDescriptor (T k).2.2.1 = some (ty0 k)) (hnm : ∀ a, a < N → ∀ b, b < N → a ≠ b → (T a).2.1 ≠ (T b).2.1) (hfin : (T k).2.2.2 = false) (htj : ty0 k = ty) (hn : narrow ty v = v) (hfit : fits ty v = true) (hlen : k < fs.length)
    (kk : JN Z X nL pre (L.set j (.inr (ci, fs.set k v))) cells slots q lv st) : JN Z X nL pre L cells slots pc lv (v :: .ref (an Z pre j) :: st) := by
  obtain ⟨⟨hx, hb, hml, hown, hts, hK, rfl, hc, hs, hbz⟩, hnw⟩ := hX
  obtain ⟨hd, rfl⟩ := hd
  obtain ⟨f1, f2, f3, f4⟩ := hf
  intro H locs ls hP hS hl
  refine va_put (ty := ty) hx hb hts f4 ty0 hty hnm hown hK hP (wls_D _ _) hS (pre.length + j) (by rw [wls_at, pl_at, he]; rfl) f1 k f2 (hts _ f3) (fun _ h => h) hfin (by rw [← htj]; exact hty k f2) hn hfit hlen hd (fun H1 locs1 hP1 _ hS1 => ?_)
  refine kk H1 locs1 ls ?_ hS1 hl
  rw [show an Z pre j = zb Z + (pre.length + j) from rfl, wls_set, pl_set] at hP1; exact hP1
theorem n_alen (hX : CxN Z X cc nL own R0) {j : Nat} {cA : ClassId} {x : vp_A} {ty : FieldType} {v : Int32} (t0 : Nat) (hd : decode cc pc = .ok (.arraylength, 1) ∧ pc + 1 = q) (he : L[j]? = some (.inl (cA, x))) (ht : (ztys Z)[t0]? = some (cA, ty)) (hv : Int32.ofNat x.1 = v) (kk : JN Z X nL pre L cells slots q lv (.int v :: st)) : JN Z X nL pre L cells slots pc lv (.ref (an Z pre j) :: st) := by
  obtain ⟨⟨hx, hb, hml, hown, hts, hK, rfl, hc, hs, hbz⟩, hnw⟩ := hX
  obtain ⟨hd, rfl⟩ := hd
  intro H locs ls hP hS hl
  exact va_alen hx hb hK hP (pre.length + j) t0 (by rw [wls_at, pl_at, he]; rfl) ht hv hd (kk H locs ls hP hS hl)
theorem n_iast (hX : CxN Z X cc nL own R0) {j n : Nat} {f : Nat → Int32} {i x : Int32} (hd : decode cc pc = .ok (.iastore, 1) ∧ pc + 1 = q) (he : L[j]? = some (.inl (zI Z, n, .inl f))) (hin : vp_in i n) (kk : JN Z X nL pre (L.set j (.inl (zI Z, n, .inl (upd f i.toNatClampNeg x)))) cells slots q lv st) : JN Z X nL pre L cells slots pc lv (.int x :: .int i :: .ref (an Z pre j) :: st) := by
  obtain ⟨⟨hx, hb, hml, hown, hts, hK, rfl, hc, hs, hbz⟩, hnw⟩ := hX
  obtain ⟨hd, rfl⟩ := hd
  intro H locs ls hP hS hl
  refine va_iast hx hb hK hP (wls_D _ _) hS (pre.length + j) 0 (by rw [wls_at, pl_at, he]; rfl) rfl hin hd (fun H1 locs1 hP1 _ hS1 => ?_)
  refine kk H1 locs1 ls ?_ hS1 hl
  rw [show an Z pre j = zb Z + (pre.length + j) from rfl, wls_set, pl_set] at hP1; exact hP1
theorem n_aast (hX : CxN Z X cc nL own R0) {j n w : Nat} {vs : List Value} {f : Nat → Option Nat} {i : Int32} (hd : decode cc pc = .ok (.aastore, 1) ∧ pc + 1 = q) (he : L[j]? = some (.inl (zO Z, n, .inr (.inr (.inr (.inr f)))))) (hw : L[w]? = some (.inr (3, vs))) (hin : vp_in i n) (kk : JN Z X nL pre (L.set j (.inl (zO Z, n, .inr (.inr (.inr (.inr (va_up f i.toNatClampNeg (some (an Z pre w))))))))) cells slots q lv st) : JN Z X nL pre L cells slots pc lv (.ref (an Z pre w) :: .int i :: .ref (an Z pre j) :: st) := by
  obtain ⟨⟨hx, hb, hml, hown, hts, hK, rfl, hc, hs, hbz⟩, hnw⟩ := hX
  obtain ⟨hd, rfl⟩ := hd
  intro H locs ls hP hS hl
  refine va_astq (r := (RX3, TX3, 1)) hx hb hK hP (wls_D _ _) hS (pre.length + j) 3 (pre.length + w) 3 (by rw [wls_at, pl_at, he]; rfl) rfl (by rw [wls_at, pl_at, hw]; rfl) rfl hin hd (fun H1 locs1 hP1 _ hS1 => ?_)
  refine kk H1 locs1 ls ?_ hS1 hl
  rw [show an Z pre j = zb Z + (pre.length + j) from rfl, wls_set, pl_set] at hP1; exact hP1
theorem n_vret (hX : CxN Z X cc nL own R0) {es : List va_E} {mc ms : Nat} (hF : FxN Z X es mc ms) (hd : decode cc pc = .ok (.return_, 1) ∧ pc + 1 = q) (hL : pre ++ L = es) (hc1 : cells = mc) (hs1 : slots = ms) : JN Z X nL pre L cells slots pc lv [] := by
  obtain ⟨⟨hx, hb, hml, hown, hts, hK, rfl, hc, hs, hbz⟩, hnw⟩ := hX
  subst hL; subst hc1; subst hs1
  intro H locs ls hP hS hl
  obtain ⟨r1, r2, r3⟩ := hF
  rw [r3]
  exact W.vret hx hb r1 (fun t ht hW => ⟨rfl, by rw [ht]; exact hP, va_K.moved hW.alike hK, hS.F ht⟩) hS.2.2 hd.1 r2
theorem runN {p : Program} {e : Env} {R : Room} {s : State} {m : MethodId} {args : Array Value} {below : List Frame} {meth : Method} {c : Code} {H : Heap} {locs : List Loc} {mc ms : Nat} {Q : State → Prop} {ls : Array Slot} {st0 rest : List Value} {es : List va_E} {av : Array Value} (hr : va_Run p (zl Z) e R s m args below meth c H locs cells slots mc ms (F0 m pc ls st0) rest (QmN Z es av) (fun q => zb Z ≤ q)) (hS : va_S (fun q => zb Z ≤ q) s.heap H locs)
    (kk : ∀ (H1 : Heap) (locs1 : List Loc), va_P (zD Z) vwCl (wls (zb Z) es) H1 → va_S (fun q => zb Z ≤ q) s.heap H1 locs1 → W p (zl Z) e R s m args below meth c H1 locs1 (cells + mc) (slots + ms) Q (F0 m (pc + 3) ls rest)) : W p (zl Z) e R s m args below meth c H locs cells slots Q (F0 m pc ls st0) := by
  intro T hT X
  obtain ⟨v, st₀, t, T', L, h0, X', hL, e1, e2, ⟨hv, hP, hK, hz, hk⟩, go⟩ := hr T hT X
  cases hv
  rw [h0] at hz hk
  obtain ⟨t2, a1, b1⟩ := kk T'.heap (locs ++ L) (by rw [e1]; exact hP)
    ⟨Nat.le_trans hS.1 (by rw [e1]; exact hz), fun q h1 h2 => by rw [e1, hk q (Nat.lt_of_lt_of_le h1 hS.1) h2]; exact hS.2.1 q h1 h2, fun q hq => by
      rcases List.mem_append.mp hq with h | h
      · exact hS.2.2 q h
      · exact hL q h⟩ T' rfl X'
  exact ⟨t2, go t2 a1, b1⟩
/-- a constructor as the tables have it -/
def MC (y : MethodName) (cy : ByteArray) (maxL n : Nat) : Prop := Cond.code y cy maxL none ∈ Gt ∧ Cond.instanceMethod y ∈ Gt ∧ Cond.initialized y.cls ∈ Gt ∧ y.name = "<init>" ∧ y.cls ≠ "java/lang/invoke/MethodHandle" ∧ y.cls ≠ "java/lang/invoke/VarHandle" ∧ (parseMethodDescriptor y.desc).map (fun d => d.parameters.length) = some n
theorem n_callI (hX : CxN Z X cc nL own R0) {y : MethodName} {cy : ByteArray} {maxL n idx mc ms : Nat} {rm : Room} {L0 L1 : List va_E} {As st0 : List Value} (hd : decode cc pc = .ok (.invokespecial idx, 3) ∧ pc + 3 = q) (hM : CtN Z y cy maxL rm (.ref (an Z pre L0.length) :: As) ((pre ++ L0) ++ L1) (pre ++ (L0 ++ L')) mc ms) (mi : MC y cy maxL n) (ml : Cond.methodLink own idx y ∈ Gt ∨ ∃ h, va_Nw (.methodLinkNest own idx y h) X.2.2.2.1) (hL : L = L0 ++ L1) (hn : As.length = n) (hn0 : X.2.2.2.1.heap.size + cells = zb Z + (pre ++ L).length) (hrm : rm.frames + 1 ≤ R0.frames ∧ 8 + (maxL + 11) + rm.locals ≤ R0.locals) (hrc : rm.cells = mc) (hrs : rm.slots = ms) (h1 : cells + mc ≤ R0.cells) (h2 : slots + ms ≤ R0.slots) (hst : st0 = As.reverse ++ .ref (an Z pre L0.length) :: st) (hsum : (st.map fun v => v.category).sum ≤ 8)
    (kk : JN Z X nL pre (L0 ++ L') (cells + mc) (slots + ms) q lv st) : JN Z X nL pre L cells slots pc lv st0 := by
  obtain ⟨⟨hx, hb, hml, hown, hts, hK, rfl, hc, hs, hbz⟩, hnw⟩ := hX
  obtain ⟨hd, rfl⟩ := hd
  obtain ⟨m1, m2, m4, m8, m5, m6, m7⟩ := mi
  subst hL
  intro H locs ls hP hS hl
  intro T hT X0
  have hz := JN_sz hn0 hT X0 hP hS hbz.1
  revert T
  have hpre : PreS X.2.2.2.1 H (PmN Z (.ref (an Z pre L0.length) :: As) ((pre ++ L0) ++ L1)) (.ref (an Z pre L0.length) :: As) := ⟨PmN_blind Z _ _, fun U hU hW => ⟨rfl, by rw [hU, List.append_assoc]; exact hz, by rw [hU, List.append_assoc]; exact hP, va_K.moved hW.alike hK, hnw.warm hW⟩⟩
  rcases ml with ml | ⟨h, ml⟩
  · exact runN (va_runI (As := As) (rest := st) ⟨hx, hb, hml, hown, hts⟩ hM ⟨callB_of n hts (gt_good m1 (fun _ h => h)) rfl hrc hrs (hts _ m4) (hts _ ml) ⟨m5, m6, m7⟩ hrm, m8, hts _ m2⟩ hpre rfl hn hl.1 hst (lv_room hsum) hd ⟨h1, h2⟩) hS (fun H1 locs1 hP1 hS1 => kk H1 locs1 ls hP1 hS1 hl)
  · exact runN (va_runIN (host := h) (As := As) (rest := st) ⟨hx, hb, hml, hown, hts⟩ hM ⟨va_cnB n hts (gt_good m1 (fun _ h => h)) rfl hrc hrs ml (hts _ m4) ⟨m5, m6, m7⟩ hrm, m8, hts _ m2⟩ hpre rfl hn hl.1 hst (lv_room hsum) hd ⟨h1, h2⟩) hS (fun H1 locs1 hP1 hS1 => kk H1 locs1 ls hP1 hS1 hl)
theorem n_callV (hX : CxN Z X cc nL own R0) {y : MethodName} {cy : ByteArray} {maxL n idx j ci N : Nat} {C : String} {T : u_T} {fs : List Value} {rm : Room} {As st0 : List Value} (hd : decode cc pc = .ok (.invokevirtual idx, 3) ∧ pc + 3 = q) (hM : CtN Z y cy maxL rm (.ref (an Z pre j) :: As) (pre ++ L) (pre ++ L') 0 0) (mi : MI y cy maxL none n) (ml : Cond.methodLink own idx y ∈ Gt) (he : L[j]? = some (.inr (ci, fs))) (hC : vwCl[ci]? = some (C, T, N)) (hyc : y.cls = C) (hn : As.length = n) (hn0 : X.2.2.2.1.heap.size + cells = zb Z + (pre ++ L).length) (hrm : rmOk rm R0 maxL = true) (h1 : cells ≤ R0.cells) (h2 : slots ≤ R0.slots) (hst : st0 = As.reverse ++ .ref (an Z pre j) :: st) (hsum : (st.map fun v => v.category).sum ≤ 8)
    (kk : JN Z X nL pre L' cells slots q lv st) : JN Z X nL pre L cells slots pc lv st0 := by
  obtain ⟨⟨hx, hb, hml, hown, hts, hK, rfl, hc, hs, hbz⟩, hnw⟩ := hX
  obtain ⟨hd, rfl⟩ := hd
  obtain ⟨m1, m2, m3, m4, m5, m6, m7⟩ := mi
  obtain ⟨r1, r2, r3, r4⟩ := rmOk_spec hrm
  intro H locs ls hP hS hl
  intro T hT X0
  have hz := JN_sz hn0 hT X0 hP hS hbz.1
  revert T
  have cw : CallW X.2.2.1 X.2.2.2.1 X.2.2.2.2.2.1 own C idx y cy maxL none (Cond.code y cy maxL none :: Gt) rm 0 0 n := by
    refine ⟨callB_of n hts (gt_good m1 (fun _ h => h)) rfl r3 r4 (hts _ m4) (hts _ ml) ⟨m5, m6, m7⟩ ⟨r1, r2⟩, hts _ m2, ?_⟩
    rw [← hyc]
    exact hts _ m3
  have hw : (wls (zb Z) (pre ++ L))[pre.length + j]? = some (an Z pre j, .inr (ci, fs)) := by rw [wls_at, pl_at, he]; rfl
  exact runN (va_runV (As := As) (rest := st) ⟨hx, hb, hml, hown, hts⟩ hM cw ⟨PmN_blind Z _ _, va_recv hK hP hC hw, fun U hU hW => ⟨rfl, by rw [hU]; exact hz, by rw [hU]; exact hP, va_K.moved hW.alike hK, hnw.warm hW⟩⟩ rfl hn hl.1 hst (lv_room hsum) hd ⟨h1, h2⟩) hS (fun H1 locs1 hP1 hS1 => kk H1 locs1 ls hP1 hS1 hl)
end RowsN
