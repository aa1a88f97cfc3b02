set_option maxRecDepth 100000 in
theorem qdL_0 : qdl code 0 ((qp270.drop 0).take 10) = true := by decide +kernel
set_option maxRecDepth 100000 in
theorem qdL_10 : qdl code 10 ((qp270.drop 10).take 10) = true := by decide +kernel
set_option maxRecDepth 100000 in
theorem qdL_20 : qdl code 20 ((qp270.drop 20).take 10) = true := by decide +kernel
