/-! PURE PART: ways: bounds -/
def bd : Nat → Nat → Nat
  | 0, u => if u = 0 then 1 else 0
  | j + 1, u => bd j u + ((if 1 ≤ u then bd j (u - 1) else 0) + ((if 6 ≤ u then bd j (u - 6) else 0) + ((if 36 ≤ u then bd j (u - 36) else 0) + (if 216 ≤ u then bd j (u - 216) else 0))))
theorem bd_s (j u : Nat) : bd (j + 1) u = bd j u + ((if 1 ≤ u then bd j (u - 1) else 0) + ((if 6 ≤ u then bd j (u - 6) else 0) + ((if 36 ≤ u then bd j (u - 36) else 0) + (if 216 ≤ u then bd j (u - 216) else 0)))) := rfl
def tb : Nat → List Nat
  | 0 => 1 :: List.replicate 1295 0
  | j + 1 => List.zipWith (fun a b => a + b) (tb j) (List.zipWith (fun a b => a + b) (List.replicate 1 0 ++ tb j) (List.zipWith (fun a b => a + b) (List.replicate 6 0 ++ tb j) (List.zipWith (fun a b => a + b) (List.replicate 36 0 ++ tb j) (List.replicate 216 0 ++ tb j))))
theorem tb_all : ((tb 16).all fun x => Nat.blt x 2147483648) = true := by decide +kernel
theorem zw {a b : List Nat} {u x y : Nat} (ha : a[u]? = some x) (hb : b[u]? = some y) : (List.zipWith (fun a b => a + b) a b)[u]? = some (x + y) := by
  rw [List.getElem?_zipWith, ha, hb]
theorem sh_at {l : List Nat} {f : Nat → Nat} {s u : Nat} (hl : ∀ u, u < 1296 → l[u]? = some (f u)) (hu : u < 1296) : (List.replicate s 0 ++ l)[u]? = some (if s ≤ u then f (u - s) else 0) := by
  rw [List.getElem?_append, List.length_replicate]
  by_cases h : s ≤ u
  · rw [if_neg (by omega), if_pos h, hl _ (by omega)]
  · rw [if_pos (by omega), if_neg h, List.getElem?_replicate, if_pos (by omega)]
theorem tb_at : ∀ j u, u < 1296 → (tb j)[u]? = some (bd j u)
  | 0, u, hu => by
    unfold tb bd
    cases u with
    | zero => rfl
    | succ u => rw [List.getElem?_cons_succ, List.getElem?_replicate, if_pos (by omega), if_neg (by omega)]
  | j + 1, u, hu => by
    have ih := tb_at j
    rw [bd_s]
    exact zw (ih u hu) (zw (sh_at ih hu) (zw (sh_at ih hu) (zw (sh_at ih hu) (sh_at ih hu))))
theorem bd_16 {u : Nat} (hu : u < 1296) : bd 16 u < 2147483648 := by
  have := List.all_eq_true.mp tb_all (bd 16 u) (List.mem_of_getElem? (tb_at 16 u hu))
  exact Nat.le_of_ble_eq_true this
theorem bd_up (u : Nat) : ∀ {j k : Nat}, j ≤ k → bd j u ≤ bd k u
  | j, 0, h => by rw [show j = 0 by omega]; exact Nat.le_refl _
  | j, k + 1, h => by
    by_cases e : j = k + 1
    · rw [e]; exact Nat.le_refl _
    · have := bd_up u (show j ≤ k by omega)
      rw [bd_s]
      omega
