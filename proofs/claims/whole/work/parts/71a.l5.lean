/-! numbers -/
theorem l5_half : (500002 : Int64).toInt = 500002 := pk_lT (n := 500002) (Nat.le_of_ble_eq_true rfl)
theorem l5_one : (1 : Int64).toInt = 1 := pk_lT (n := 1) (by decide)
