/-! THE LAW'S START: both systems are made; the world is whole -/
def cm0 : CM := fun o p => if p = 1 ∧ kd o = 3 then offI else if o = 0 then (fun j => if j = 7 then 1 else 0) else fun _ => 0
def mm0 : MM := fun p => if p = 1 then nowI else fun _ => 0
def lm0 : LM := fun _ => 0
/-- the cells as they are made, but for the row of pages, which is written as the world has it -/
def LB (Z : ZC) : List va_E := (LA Z).set 4 (.inl (zO Z, 24, .inr (.inr (.inr (.inr (fun i => some (ad Z (3 + i) 0)))))))
set_option maxRecDepth 100000 in
set_option maxHeartbeats 4000000 in
theorem LB_eq (Z : ZC) : LB Z = (List.range 121).map fun k => en Z cm0 mm0 lm0 (inv k).1 (inv k).2 := rfl
theorem wls_map (b n : Nat) (f : Nat → va_E) : wls b ((List.range n).map f) = (List.range n).map fun k => (b + k, f k) := by
  apply List.ext_getElem?
  intro i
  rw [wls_at, List.getElem?_map, List.getElem?_map]
  by_cases h : i < n
  · rw [List.getElem?_range h]; rfl
  · rw [List.getElem?_eq_none (by rw [List.length_range]; omega)]; rfl
theorem wl_0 (Z : ZC) : wls (zb Z) (LB Z) = wl Z cm0 mm0 lm0 := by
  rw [LB_eq, wls_map]
  rfl
theorem cell_q {cA : ClassId} {n : Nat} {f g : Nat → Option Nat} (h : ∀ i, i < n → f i = g i) : vp_cell cA (n, .inr (.inr (.inr (.inr f)))) = vp_cell cA (n, .inr (.inr (.inr (.inr g)))) := by
  rw [vp_cell_q, vp_cell_q]
  have e : ∀ j, j < n → va_rf (f j) = va_rf (g j) := fun j hj => by rw [h j hj]
  unfold arrV
  congr 1
  apply Array.ext
  · simp
  · intro i h1 h2
    simp at h1 h2 ⊢
    exact e _ (by omega)
