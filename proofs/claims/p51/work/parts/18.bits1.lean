/-! the JDK's bitCount -/
def b1 (m n : Nat) : Nat := n - ((n >>> 1) &&& m)
def b2 (m n : Nat) : Nat := (n &&& m) + ((n >>> 2) &&& m)
def b3 (m n : Nat) : Nat := (n + (n >>> 4)) &&& m
theorem b16 : ∀ i, i < 256 → ∀ j, j < 256 → b3 0xf0f (b2 0x3333 (b1 0x5555 (i + 256 * j))) = pcn 8 i + 256 * pcn 8 j := by decide +kernel
theorem b16a : ∀ i, i < 256 → ∀ j, j < 256 → b1 0x5555 (i + 256 * j) < 65536 ∧ (i + 256 * j) >>> 1 &&& 0x5555 ≤ i + 256 * j ∧ (b2 0x3333 (b1 0x5555 (i + 256 * j)) ≤ 17476 ∧ b2 0x3333 (b1 0x5555 (i + 256 * j)) % 16 ≤ 4) := by decide +kernel
