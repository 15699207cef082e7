/-! how many bits, by looking at all small sets -/
section PCNT
/-- how many -/
def pcN (m : Nat) : Nat := ((List.range 12).filter fun i => m.testBit i).length
def pc (m : Int) : Int := (pcN m.toNat : Int)
theorem bc_all : (List.range 4096).all (fun m => decide (fJ6_bitCount_0f7a4 [] (fun _ _ => 0) (m : Int) = some (pcN m : Int))) = true := by decide +kernel
theorem bits_all : (List.range 4096).all (fun m => decide (fX9_bits [] (fun _ _ => 0) (m : Int) = some (pcN m : Int))) = true := by decide +kernel
end PCNT
