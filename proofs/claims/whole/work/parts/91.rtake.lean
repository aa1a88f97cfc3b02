/-! bytes as the reference keeps them -/
theorem b8_all : (List.range 256).all (fun b => decide ((Int32.toInt8 (Int32.toInt8 (nI b)).toInt32).toInt32 &&& nI 255 = nI b)) = true := by decide +kernel
theorem b8 {b : Nat} (h : b < 256) : (Int32.toInt8 (Int32.toInt8 (nI b)).toInt32).toInt32 &&& nI 255 = nI b := of_decide_eq_true (List.all_eq_true.mp b8_all b (List.mem_range.mpr h))
