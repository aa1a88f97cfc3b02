set_option maxRecDepth 100000 in
theorem qdL_60 : qdl code 60 ((qp270.drop 60).take 10) = true := by decide +kernel
set_option maxRecDepth 100000 in
theorem qdL_70 : qdl code 70 ((qp270.drop 70).take 10) = true := by decide +kernel
set_option maxRecDepth 100000 in
theorem qdL_80 : qdl code 80 ((qp270.drop 80).take 10) = true := by decide +kernel
