/-! PURE PART: how many bits are set -/
def pc (v : Nat) : Nat :=
  let a := v - (v / 2 &&& 1431655765)
  let b := (a &&& 858993459) + (a / 4 &&& 858993459)
  let c := (b + b / 16) &&& 252645135
  let d := c + c / 256
  (d + d / 65536) % 64
def c8 (v : Nat) : Nat := v % 2 + v / 2 % 2 + v / 4 % 2 + v / 8 % 2 + v / 16 % 2 + v / 32 % 2 + v / 64 % 2 + v / 128 % 2
theorem pc_all : ((List.range 256).all fun h => (List.range 256).all fun l => pc (256 * h + l) == c8 h + c8 l) = true := by decide +kernel
