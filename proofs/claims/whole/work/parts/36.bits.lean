/-! how many bits are set -/
def bitT (x : Nat) : Bool := decide (mJ6_bitCount_0f7a4 (nI x) = mX6_size_4 20 0 (nI x) (fun _ _ => 0))
theorem bitT_1 : ((List.range 4).all fun h => (List.range 256).all fun l => bitT (256 * h + l)) = true := by decide +kernel
