/-! how many bits, by sums -/
def pN1 (n : Nat) : Nat := n - ((n >>> 1) &&& 1431655765)
def pN2 (n : Nat) : Nat := (n &&& 858993459) + ((n >>> 2) &&& 858993459)
def pN3 (n : Nat) : Nat := (n + (n >>> 4)) &&& 252645135
def pN4 (n : Nat) : Nat := n + (n >>> 8)
def pN5 (n : Nat) : Nat := (n + (n >>> 16)) &&& 63
def pNp (n : Nat) : Nat := pN5 (pN4 (pN3 (pN2 (pN1 n))))
theorem pN_low : ∀ n, n < 256 → pNp n = fb_ct (fun i => n.testBit i) 8 := by decide +kernel
theorem pN_cut : ∀ h, h < 256 → ∀ l, l < 256 → pNp (256 * h + l) = pNp h + pNp l := by decide +kernel
