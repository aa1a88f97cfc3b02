set_option maxRecDepth 100000 in
theorem qdL_30 : qdl code 30 ((qp270.drop 30).take 10) = true := by decide +kernel
set_option maxRecDepth 100000 in
theorem qdL_40 : qdl code 40 ((qp270.drop 40).take 10) = true := by decide +kernel
set_option maxRecDepth 100000 in
theorem qdL_50 : qdl code 50 ((qp270.drop 50).take 10) = true := by decide +kernel
