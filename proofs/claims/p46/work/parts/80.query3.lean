/-! ===== letters, proposals, acts ===== -/
theorem rc_0 {k : Option (Int × St)} : rc 0 k = k := rc_ok (by decide) (by decide)
