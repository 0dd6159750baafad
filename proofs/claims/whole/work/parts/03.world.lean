/-! THE WORLD: 33 objects in 121 cells, one behind another from the address b on; what changes in it are numbers alone: cm (the class's objects: object, part, place), mm (the reference's parts), lm (its row of longs) -/
def Gt : List Cond := lw_tbl.filter goodWord
theorem gt_of {w : Cond} (h : w ∈ lw_tbl) (g : goodWord w = true) : w ∈ Gt := List.mem_filter.mpr ⟨h, g⟩
theorem gt_at {w : Cond} (i : Nat) (h : tables_1[i]? = some w) (g : goodWord w = true) : w ∈ Gt := gt_of (List.mem_append_right _ (List.mem_of_getElem? h)) g
theorem gt_pr {w : Cond} (i : Nat) (h : (k2_sels lw_privs)[i]? = some w) (g : goodWord w = true) : w ∈ Gt := gt_of (List.mem_append_left _ (List.mem_of_getElem? h)) g
theorem gt_tbl {w : Cond} (h : w ∈ Gt) : w ∈ lw_tbl := (List.mem_filter.mp h).1
theorem gt_good {y : MethodName} {cc : ByteArray} {n : Nat} {ret : Option FieldType} {ws : List Cond} (h : Cond.code y cc n ret ∈ Gt) (hw : ∀ w ∈ Gt, w ∈ ws) : GoodIn ws (Cond.code y cc n ret :: Gt) := by
  intro w hm
  rcases List.mem_cons.mp hm with rfl | hm
  · exact ⟨hw _ h, good_of_word (List.mem_filter.mp h).2⟩
  · exact ⟨hw _ hm, good_of_word (List.mem_filter.mp hm).2⟩
abbrev CM : Type := Nat → Nat → Nat → Int32
abbrev MM : Type := Nat → Nat → Int32
abbrev LM : Type := Nat → Int64
def u3 (m : CM) (o p : Nat) (f : Nat → Int32) : CM := fun a b => if a = o ∧ b = p then f else m a b
def u2 (m : MM) (p : Nat) (f : Nat → Int32) : MM := fun b => if b = p then f else m b
theorem u3_s (m : CM) (o p : Nat) (f : Nat → Int32) : u3 m o p f o p = f := by simp [u3]
theorem u3_n (m : CM) {o p a b : Nat} (f : Nat → Int32) (h : ¬ (a = o ∧ b = p)) : u3 m o p f a b = m a b := by simp only [u3, if_neg h]
theorem u2_s (m : MM) (p : Nat) (f : Nat → Int32) : u2 m p f p = f := by simp [u2]
theorem u2_n (m : MM) {p b : Nat} (f : Nat → Int32) (h : b ≠ p) : u2 m p f b = m b := by simp only [u2, if_neg h]
/-- kind of an object: the number of its class -/
def kd (o : Nat) : Nat := if o = 0 then 6 else if o = 2 then 2 else if o = 27 then 0 else if o = 29 then 0 else if o = 30 then 1 else if o = 31 then 4 else if o = 32 then 7 else 3
def szk (k : Nat) : Nat := if k = 0 then 21 else if k = 1 then 3 else if k = 2 then 2 else if k = 3 then 2 else if k = 4 then 2 else if k = 6 then 1 else 19
def bs (o : Nat) : Nat := if o = 0 then 0 else if o = 1 then 1 else if o = 2 then 3 else if o < 27 then 2 * o - 1 else if o = 27 then 53 else if o = 28 then 74 else if o = 29 then 76 else if o = 30 then 97 else if o = 31 then 100 else 102
def inv (k : Nat) : Nat × Nat := if k = 0 then (0, 0) else if k < 3 then (1, k - 1) else if k < 5 then (2, k - 3) else if k < 53 then ((k + 1) / 2, (k + 1) % 2) else if k < 74 then (27, k - 53) else if k < 76 then (28, k - 74) else if k < 97 then (29, k - 76) else if k < 100 then (30, k - 97) else if k < 102 then (31, k - 100) else (32, k - 102)
theorem inv_bs : ∀ o, o < 33 → ∀ p, p < szk (kd o) → inv (bs o + p) = (o, p) ∧ bs o + p < 121 := by decide +kernel
theorem bs_inv : ∀ k, k < 121 → bs (inv k).1 + (inv k).2 = k := by decide +kernel
/-- launch, numbers of the classes and of their fields, classes of the rows (int, long, boolean, Office), the first address -/
abbrev ZC : Type := Launch × va_G × (ClassId × ClassId × ClassId × ClassId) × Nat
abbrev zl (Z : ZC) : Launch := Z.1
abbrev zD (Z : ZC) : va_G := Z.2.1
abbrev zb (Z : ZC) : Nat := Z.2.2.2
abbrev zI (Z : ZC) : ClassId := Z.2.2.1.1
abbrev zJ (Z : ZC) : ClassId := Z.2.2.1.2.1
abbrev zB (Z : ZC) : ClassId := Z.2.2.1.2.2.1
abbrev zO (Z : ZC) : ClassId := Z.2.2.1.2.2.2
def ad (Z : ZC) (o p : Nat) : Nat := zb Z + (bs o + p)
abbrev ztys (Z : ZC) : List (ClassId × FieldType) := [(zI Z, .int), (zJ Z, .long), (zB Z, .boolean), (zO Z, .object "KeptSeats$Office")]
/-- what a part of an object holds -/
def enCh (Z : ZC) (o p : Nat) (f : Nat → Int32) : va_E :=
  if p = 0 then .inr (0, [.ref (ad Z o 1), .ref (ad Z o 3), .ref (ad Z o 5), .ref (ad Z o 7), .ref (ad Z o 9), .ref (ad Z o 11), .ref (ad Z o 13), .ref (ad Z o 15), .ref (ad Z o 17), .int (f 9), .int (f 10), .int (f 11)])
  else if p = 1 then .inr (4, [.ref (ad Z o 2)]) else if p = 2 then .inl (zI Z, 16, .inl f)
  else if p = 3 then .inr (4, [.ref (ad Z o 4)]) else if p = 4 then .inl (zI Z, 4, .inl f)
  else if p = 5 then .inr (4, [.ref (ad Z o 6)]) else if p = 6 then .inl (zI Z, 16, .inl f)
  else if p = 7 then .inr (4, [.ref (ad Z o 8)]) else if p = 8 then .inl (zI Z, 4, .inl f)
  else if p = 9 then .inr (4, [.ref (ad Z o 10)]) else if p = 10 then .inl (zI Z, 16, .inl f)
  else if p = 11 then .inr (4, [.ref (ad Z o 12)]) else if p = 12 then .inl (zI Z, 16, .inl f)
  else if p = 13 then .inr (4, [.ref (ad Z o 14)]) else if p = 14 then .inl (zI Z, 16, .inl f)
  else if p = 15 then .inr (4, [.ref (ad Z o 16)]) else if p = 16 then .inl (zI Z, 16, .inl f)
  else if p = 17 then .inr (5, [.ref (ad Z o 18), .ref (ad Z o 19)]) else if p = 18 then .inl (zI Z, 16, .inl f)
  else if p = 19 then .inr (4, [.ref (ad Z o 20)]) else .inl (zI Z, 4, .inl f)
def enOf (Z : ZC) (o p : Nat) (f : Nat → Int32) : va_E := if p = 0 then .inr (3, [.ref (ad Z o 1)]) else .inl (zI Z, 159, .inl f)
def enDi (Z : ZC) (p : Nat) (f : Nat → Int32) : va_E := if p = 0 then .inr (2, [.ref (ad Z 2 1), .int (f 1), .int (f 2)]) else .inl (zO Z, 24, .inr (.inr (.inr (.inr (fun i => some (ad Z (3 + i) 0))))))
def enCo (Z : ZC) (p : Nat) (f : Nat → Int32) : va_E := if p = 0 then .inr (1, [.ref (ad Z 30 1)]) else if p = 1 then .inr (4, [.ref (ad Z 30 2)]) else .inl (zI Z, 1296, .inl f)
def enGa (Z : ZC) (p : Nat) (f : Nat → Int32) : va_E := if p = 0 then .inr (4, [.ref (ad Z 31 1)]) else .inl (zI Z, 16, .inl f)
def enSe (Z : ZC) (f : Nat → Int32) : va_E := .inr (6, [.ref (ad Z 1 0), .ref (ad Z 2 0), .ref (ad Z 27 0), .ref (ad Z 28 0), .ref (ad Z 29 0), .ref (ad Z 30 0), .ref (ad Z 31 0), .int (f 7)])
def mlen (p : Nat) : Nat := if p = 1 then 159 else if p = 2 then 3816 else if p = 4 then 4 else if p = 6 then 4 else if p = 7 then 4 else if p = 15 then 272 else if p = 16 then 4 else if p = 17 then 1296 else 16
def enMo (Z : ZC) (p : Nat) (f : Nat → Int32) (g : LM) : va_E :=
  if p = 0 then .inr (7, [.ref (ad Z 32 1), .ref (ad Z 32 2), .int (f 2), .int (f 3), .ref (ad Z 32 3), .ref (ad Z 32 4), .ref (ad Z 32 5), .ref (ad Z 32 6), .ref (ad Z 32 7), .ref (ad Z 32 8), .ref (ad Z 32 9), .ref (ad Z 32 10), .ref (ad Z 32 11), .ref (ad Z 32 12), .int (f 14), .ref (ad Z 32 13), .ref (ad Z 32 14), .ref (ad Z 32 15), .ref (ad Z 32 16), .ref (ad Z 32 17), .ref (ad Z 32 18)])
  else if p = 17 then .inl (zJ Z, 1296, .inr (.inl g))
  else if p = 10 then .inl (zB Z, 16, .inl f)
  else if p = 12 then .inl (zB Z, 16, .inl f)
  else .inl (zI Z, mlen p, .inl f)
def enC (Z : ZC) (k o p : Nat) (f : Nat → Int32) : va_E := if k = 0 then enCh Z o p f else if k = 1 then enCo Z p f else if k = 2 then enDi Z p f else if k = 3 then enOf Z o p f else if k = 4 then enGa Z p f else enSe Z f
def en (Z : ZC) (cm : CM) (mm : MM) (lm : LM) (o p : Nat) : va_E := if o = 32 then enMo Z p (mm p) lm else enC Z (kd o) o p (cm o p)
def wl (Z : ZC) (cm : CM) (mm : MM) (lm : LM) : va_W := (List.range 121).map fun k => (zb Z + k, en Z cm mm lm (inv k).1 (inv k).2)
abbrev okp (o p : Nat) : Prop := o < 33 ∧ p < szk (kd o)
theorem wl_len (Z : ZC) (cm : CM) (mm : MM) (lm : LM) : (wl Z cm mm lm).length = 121 := by simp [wl]
theorem wl_at {Z : ZC} {cm : CM} {mm : MM} {lm : LM} {k : Nat} (h : k < 121) : (wl Z cm mm lm)[k]? = some (zb Z + k, en Z cm mm lm (inv k).1 (inv k).2) := by
  simp [wl, h]
theorem wl_get {Z : ZC} {cm : CM} {mm : MM} {lm : LM} {o p : Nat} (h : okp o p) : (wl Z cm mm lm)[bs o + p]? = some (ad Z o p, en Z cm mm lm o p) := by
  obtain ⟨h1, h2⟩ := inv_bs o h.1 p h.2
  rw [wl_at h2, h1]; rfl
theorem wl_set {Z : ZC} {cm cm' : CM} {mm mm' : MM} {lm lm' : LM} {o p : Nat} (h : okp o p) (hs : ∀ a b, ¬ (a = o ∧ b = p) → en Z cm' mm' lm' a b = en Z cm mm lm a b) : (wl Z cm mm lm).set (bs o + p) (ad Z o p, en Z cm' mm' lm' o p) = wl Z cm' mm' lm' := by
  obtain ⟨h1, h2⟩ := inv_bs o h.1 p h.2
  apply List.ext_getElem?
  intro k
  rw [List.getElem?_set]
  split
  · rename_i e
    subst e
    rw [if_pos (by rw [wl_len]; exact h2), wl_get h]
  · rename_i e
    by_cases hk : k < 121
    · rw [wl_at hk, wl_at hk, hs]
      intro ⟨e1, e2⟩
      have := bs_inv k hk
      rw [e1, e2] at this
      exact e this
    · rw [List.getElem?_eq_none (by rw [wl_len]; omega), List.getElem?_eq_none (by rw [wl_len]; omega)]
theorem wl_D (Z : ZC) (cm : CM) (mm : MM) (lm : LM) : va_D (fun q => zb Z ≤ q) (wl Z cm mm lm) := by
  have key : ∀ (i : Nat) (p : Nat × va_E), (wl Z cm mm lm)[i]? = some p → p.1 = zb Z + i := by
    intro i p h
    by_cases hi : i < 121
    · rw [wl_at hi] at h
      cases h; rfl
    · rw [List.getElem?_eq_none (by rw [wl_len]; omega)] at h
      cases h
  refine ⟨fun i j p q hp hq e => ?_, fun k q h => ?_⟩
  · have a := key i p hp
    have b := key j q hq
    omega
  · rw [key k q h]; exact Nat.le_add_right _ _
theorem en_u3 {Z : ZC} {cm : CM} {mm : MM} {lm : LM} {o p : Nat} {f : Nat → Int32} (a b : Nat) (h : ¬ (a = o ∧ b = p)) : en Z (u3 cm o p f) mm lm a b = en Z cm mm lm a b := by
  unfold en
  rw [u3_n cm f h]
theorem en_u3s {Z : ZC} {cm : CM} {mm : MM} {lm : LM} {o p : Nat} {f : Nat → Int32} (ho : o ≠ 32) : en Z (u3 cm o p f) mm lm o p = enC Z (kd o) o p f := by
  unfold en
  rw [if_neg ho, u3_s]
theorem en_u2 {Z : ZC} {cm : CM} {mm : MM} {lm : LM} {p : Nat} {f : Nat → Int32} (a b : Nat) (h : ¬ (a = 32 ∧ b = p)) : en Z cm (u2 mm p f) lm a b = en Z cm mm lm a b := by
  unfold en
  by_cases e : a = 32
  · rw [if_pos e, if_pos e, u2_n mm f (fun q => h ⟨e, q⟩)]
  · rw [if_neg e, if_neg e]
theorem en_u2s {Z : ZC} {cm : CM} {mm : MM} {lm : LM} {p : Nat} {f : Nat → Int32} : en Z cm (u2 mm p f) lm 32 p = enMo Z p f lm := by
  unfold en
  rw [if_pos rfl, u2_s]
theorem en_ul {Z : ZC} {cm : CM} {mm : MM} {lm lm' : LM} (a b : Nat) (h : ¬ (a = 32 ∧ b = 17)) : en Z cm mm lm' a b = en Z cm mm lm a b := by
  unfold en
  by_cases e : a = 32
  · rw [if_pos e, if_pos e]
    unfold enMo
    by_cases e2 : b = 17
    · exact absurd ⟨e, e2⟩ h
    · simp only [if_neg e2]
  · rw [if_neg e, if_neg e]
theorem en_c {Z : ZC} {cm : CM} {mm : MM} {lm : LM} {o p : Nat} (ho : o ≠ 32) : en Z cm mm lm o p = enC Z (kd o) o p (cm o p) := by
  unfold en
  rw [if_neg ho]
theorem en_m {Z : ZC} {cm : CM} {mm : MM} {lm : LM} {p : Nat} : en Z cm mm lm 32 p = enMo Z p (mm p) lm := by
  unfold en
  rw [if_pos rfl]
/-- the machine's own part: program, env, room, start, method, arguments, frames below, method, code, goal, cells and slots made so far -/
abbrev XC : Type := Program × Env × Room × State × MethodId × Array Value × List Frame × Method × Code × (State → Prop) × Nat × Nat
def lkv : List (Option Value) → Nat → Option Value
  | [], _ => none
  | v :: _, 0 => v
  | _ :: l, n + 1 => lkv l n
def stv : List (Option Value) → Nat → Option Value → List (Option Value)
  | [], _, _ => []
  | _ :: l, 0, x => x :: l
  | v :: l, n + 1, x => v :: stv l n x
def ctk (lv : List (Option Value)) : Nat → Bool
  | 0 => true
  | j + 1 => match lkv lv j with
    | some v => v.category != 2
    | none => true
def hasL (ls : Array Slot) (nL : Nat) (lv : List (Option Value)) : Prop := ls.size = nL ∧ lv_wf ls ∧ ∀ i v, lkv lv i = some v → ls[i]? = some (.val v)
theorem lkv_stv_s : ∀ (lv : List (Option Value)) (i : Nat) (x v : Value), lkv (stv lv i (some x)) i = some v → v = x
  | [], _, _, _, h => by simp [stv, lkv] at h
  | _ :: _, 0, _, _, h => by simp [stv, lkv] at h; exact h.symm
  | _ :: l, n + 1, x, v, h => lkv_stv_s l n x v h
theorem lkv_stv_n : ∀ (lv : List (Option Value)) (i j : Nat) (x : Option Value), j ≠ i → lkv (stv lv i x) j = lkv lv j
  | [], _, _, _, _ => rfl
  | _ :: _, 0, 0, _, h => absurd rfl h
  | _ :: _, 0, _ + 1, _, _ => rfl
  | _ :: _, _ + 1, 0, _, _ => rfl
  | _ :: l, n + 1, j + 1, x, h => lkv_stv_n l n j x (fun e => h (by rw [e]))
def prs : Nat → List (Option Value) → List (Nat × Value)
  | _, [] => []
  | n, none :: l => prs (n + 1) l
  | n, some v :: l => (n, v) :: prs (n + 1) l
theorem mem_prs : ∀ (lv : List (Option Value)) (n i : Nat) (v : Value), lkv lv i = some v → (n + i, v) ∈ prs n lv
  | [], _, _, _, h => by simp [lkv] at h
  | none :: _, _, 0, _, h => by simp [lkv] at h
  | some _ :: _, n, 0, v, h => by simp [lkv] at h; subst h; exact List.mem_cons_self
  | none :: l, n, i + 1, v, h => by
    have := mem_prs l (n + 1) i v h
    rw [show n + (i + 1) = n + 1 + i by omega]
    exact this
  | some _ :: l, n, i + 1, v, h => by
    have := mem_prs l (n + 1) i v h
    rw [show n + (i + 1) = n + 1 + i by omega]
    exact List.mem_cons_of_mem _ this
theorem prs_mem : ∀ (lv : List (Option Value)) (n : Nat) (q : Nat × Value), q ∈ prs n lv → ∃ i, q.1 = n + i ∧ lkv lv i = some q.2
  | [], _, _, h => by simp [prs] at h
  | none :: l, n, q, h => by
    obtain ⟨i, h1, h2⟩ := prs_mem l (n + 1) q h
    exact ⟨i + 1, by omega, h2⟩
  | some v :: l, n, q, h => by
    rcases List.mem_cons.mp h with rfl | h
    · exact ⟨0, rfl, rfl⟩
    · obtain ⟨i, h1, h2⟩ := prs_mem l (n + 1) q h
      exact ⟨i + 1, by omega, h2⟩
theorem hasL.kit {ls : Array Slot} {nL : Nat} {lv : List (Option Value)} (h : hasL ls nL lv) : lv_has ls nL (prs 0 lv) := by
  refine ⟨h.1, h.2.1, fun q hq => ?_⟩
  obtain ⟨i, h1, h2⟩ := prs_mem lv 0 q hq
  rw [h1, Nat.zero_add]
  exact h.2.2 i q.2 h2
theorem hasL.st {ls : Array Slot} {nL i : Nat} {lv : List (Option Value)} {x : Value} (hc : ctk lv i = true) (h : lv_has ls nL ((i, x) :: (prs 0 lv).filter (fun q => !(q.1 == i) && !(q.1 + 1 == i && q.2.category == 2)))) : hasL ls nL (stv lv i (some x)) := by
  refine ⟨h.1, h.2.1, fun j v hj => ?_⟩
  by_cases e : j = i
  · subst e
    rw [lkv_stv_s lv j x v hj]
    exact h.2.2 _ List.mem_cons_self
  · rw [lkv_stv_n lv i j _ e] at hj
    refine h.2.2 (j, v) (List.mem_cons_of_mem _ (List.mem_filter.mpr ⟨?_, ?_⟩))
    · have := mem_prs lv 0 j v hj
      rwa [Nat.zero_add] at this
    · by_cases e2 : j + 1 = i
      · subst e2
        simp only [ctk, hj] at hc
        simp_all
      · simp [e, e2]
theorem hasL.st2 {ls : Array Slot} {nL i : Nat} {lv : List (Option Value)} {x : Value} (hc : ctk lv i = true) (h : lv_has ls nL ((i, x) :: (prs 0 lv).filter (fun q => !(q.1 == i) && (!(q.1 == i + 1) && !(q.1 + 1 == i && q.2.category == 2))))) : hasL ls nL (stv (stv lv (i + 1) none) i (some x)) := by
  refine ⟨h.1, h.2.1, fun j v hj => ?_⟩
  by_cases e : j = i
  · subst e
    rw [lkv_stv_s _ j x v hj]
    exact h.2.2 _ List.mem_cons_self
  · rw [lkv_stv_n _ i j _ e] at hj
    by_cases e3 : j = i + 1
    · subst e3
      exfalso
      have key : ∀ (l : List (Option Value)) (n : Nat), lkv (stv l n none) n = none := by
        intro l
        induction l with
        | nil => intro n; rfl
        | cons a l ih => intro n; cases n with
          | zero => rfl
          | succ n => exact ih n
      rw [key] at hj
      cases hj
    · rw [lkv_stv_n _ (i + 1) j _ e3] at hj
      refine h.2.2 (j, v) (List.mem_cons_of_mem _ (List.mem_filter.mpr ⟨?_, ?_⟩))
      · have := mem_prs lv 0 j v hj
        rwa [Nat.zero_add] at this
      · by_cases e2 : j + 1 = i
        · subst e2
          simp only [ctk, hj] at hc
          simp_all
        · simp [e, e2, e3]
theorem hasL_entry {args : List Value} {n : Nat} {lv : List (Option Value)} (hc : args.all (fun v => v.category == 1) = true) (hn : args.length ≤ n) (hl : args.map some ++ List.replicate (n - args.length) none = lv) : hasL ((lg_sl args ++ List.replicate (n - (lg_sl args).length) Slot.unset).toArray) n lv := by
  have hlen : lg_sl args = args.map Slot.val := by
    unfold lg_sl
    clear hn hl
    induction args with
    | nil => rfl
    | cons a l ih =>
      simp only [List.all_cons, Bool.and_eq_true, beq_iff_eq] at hc
      rw [List.flatMap_cons, ih hc.2, if_neg (by rw [hc.1]; decide)]
      rfl
  have h := lv_entry args (n := n) (by rw [hlen, List.length_map]; exact hn)
  refine ⟨h.1, h.2.1, fun i v hi => h.2.2 (i, v) ?_⟩
  have key : ∀ (l : List Value) (m k : Nat), l.all (fun v => v.category == 1) = true → ∀ i v, lkv (l.map some ++ List.replicate m none) i = some v → (k + i, v) ∈ lv_args k l := by
    intro l
    induction l with
    | nil =>
      intro m k _ i v h
      exfalso
      have : ∀ (m i : Nat), lkv (List.replicate m none) i = none := by
        intro m
        induction m with
        | zero => intro i; rfl
        | succ m ih => intro i; cases i with
          | zero => rfl
          | succ i => exact ih i
      rw [List.map_nil, List.nil_append, this] at h
      cases h
    | cons a l ih =>
      intro m k hc i v h
      simp only [List.all_cons, Bool.and_eq_true, beq_iff_eq] at hc
      cases i with
      | zero =>
        have e : v = a := by simp [lkv] at h; exact h.symm
        subst e
        exact List.mem_cons_self
      | succ i =>
        unfold lv_args
        rw [if_neg (by rw [hc.1]; decide)]
        have := ih m (k + 1) hc.2 i v h
        rw [show k + (i + 1) = k + 1 + i by omega]
        exact List.mem_cons_of_mem _ this
  have := key args (n - args.length) 0 hc i v (by rw [hl]; exact hi)
  rwa [Nat.zero_add] at this
