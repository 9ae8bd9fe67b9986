/-! ===== pure: layOut of the reference ===== -/
theorem rA_n (S : MS) (k : Nat) {j : Nat} (hj : j < 2 ^ 31) : rA S k (nI j) = aI S k j := by
  show aI S k (nI j).toNatClampNeg = _
  rw [nI_clamp hj]
