/-! switches; answers of truth -/
section Sw
variable {Z : ZC} {X : XC} {cc : ByteArray} {nL : Nat} {own : String} {R0 : Room} {cm cm' : CM} {mm mm' : MM} {lm lm' : LM} {pc q ob pt : Nat} {lv : List (Option Value)} {st : List Value} {α : Type} {k : α → Prop} {o : Option α}
theorem g_tsw (hX : Cx Z X cc nL own R0) {x : Int32} {dflt lo hi off : Int} {offs : Array Int} {len t : Nat} {A B : Option α} (hd : decode cc pc = .ok (.tableswitch dflt lo hi offs, len)) (v : Int32) {_ : Decidable (x = v)} (h1 : ¬ v.toInt < lo) (h2 : ¬ hi < v.toInt) (ho : offs[(v.toInt - lo).toNat]? = some off) (ht : (pc : Int) + off = (t : Int)) (kt : x = v → G k A (J Z X nL cm mm lm t lv st)) (kf : ¬ x = v → G k B (J Z X nL cm mm lm pc lv (.int x :: st))) : G k (if x = v then A else B) (J Z X nL cm mm lm pc lv (.int x :: st)) := by
  refine g_if (fun h => ?_) kf
  subst h
  have kt := kt rfl
  obtain ⟨hx, hb, hml, hown, hts, hK, rfl, hc, hs, hbz⟩ := hX
  intro a ha hk H locs ls hP hS hl
  exact lv_tableIn hx hb hd h1 h2 ho ht (kt a ha hk H locs ls hP hS hl)
theorem g_tsd (hX : Cx Z X cc nL own R0) {x : Int32} {dflt lo hi : Int} {offs : Array Int} {len t : Nat} (hd : decode cc pc = .ok (.tableswitch dflt lo hi offs, len)) (h : x.toInt < lo ∨ hi < x.toInt) (ht : (pc : Int) + dflt = (t : Int)) (kk : G k o (J Z X nL cm mm lm t lv st)) : G k o (J Z X nL cm mm lm pc lv (.int x :: st)) := by
  obtain ⟨hx, hb, hml, hown, hts, hK, rfl, hc, hs, hbz⟩ := hX
  intro a ha hk H locs ls hP hS hl
  exact lv_tableOut hx hb hd h ht (kk a ha hk H locs ls hP hS hl)
theorem sw_out {x : Int32} {n : Nat} (h : ∀ k : Nat, k < n → ¬ x = nI k) : x.toInt < 0 ∨ (n : Int) - 1 < x.toInt := by
  by_cases h0 : x.toInt < 0
  · exact Or.inl h0
  · refine Or.inr ?_
    obtain ⟨j, hj, e⟩ := nI_of (x := x) (by rw [Int32.lt_iff_toInt_lt]; exact h0)
    by_cases hn : j < n
    · exact absurd e (h j hn)
    · rw [e, nI_toInt hj]; omega
end Sw
