/-! SETS as numbers -/
section BITS
def bt (S i : Int) : Bool := Nat.testBit S.toNat i.toNat
theorem bit_and : ∀ (s : Fin 512) (i : Fin 9), andI (shrI (s.val : Int) (i.val : Int)) 1 = if Nat.testBit s.val i.val then 1 else 0 := by decide +kernel
theorem bit_xor : ∀ (s : Fin 512) (i : Fin 9), xorI (s.val : Int) (shlI 1 (i.val : Int)) = ((s.val ^^^ 2 ^ i.val : Nat) : Int) := by decide +kernel
theorem bit_or : ∀ (s : Fin 512) (i : Fin 9), orI (s.val : Int) (shlI 1 (i.val : Int)) = ((s.val ||| 2 ^ i.val : Nat) : Int) := by decide +kernel
theorem bit_clr : ∀ (s : Fin 512) (i : Fin 9), andI (s.val : Int) (xorI (shlI 1 (i.val : Int)) (-1)) = ((s.val &&& (511 ^^^ 2 ^ i.val) : Nat) : Int) := by decide +kernel
theorem bit_self : ∀ (s : Fin 512), andI (s.val : Int) (s.val : Int) = (s.val : Int) := by decide +kernel
theorem bit_shl : ∀ (i : Fin 10), shlI 1 (i.val : Int) = ((2 ^ i.val : Nat) : Int) := by decide +kernel
end BITS
