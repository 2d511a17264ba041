/-! chars -/
theorem zb_cast {v : Nat} (h : v < 65536) : ((nI v).toUInt32 % 65536).toInt32 = nI v := by
  rw [pk_char, pk_tn (by omega), Nat.mod_eq_of_lt h]
theorem zb_narc {v : Nat} (h : v < 65536) : ((nI v).toUInt32 % 65536).toInt32 = nI v := zb_cast h
theorem zb_chr {v : Nat} (h : v < 65536) : narrow .char (.int (nI v)) = .int (nI v) := (pk_charN h).1
