set_option maxRecDepth 40000 in
theorem okc_15 : (List.range' 75 5).all okY = true := by decide +kernel
set_option maxRecDepth 40000 in
theorem okc_16 : (List.range' 80 5).all okY = true := by decide +kernel
set_option maxRecDepth 40000 in
theorem okc_17 : (List.range' 85 5).all okY = true := by decide +kernel
set_option maxRecDepth 40000 in
theorem okc_18 : (List.range' 90 5).all okY = true := by decide +kernel
set_option maxRecDepth 40000 in
theorem okc_19 : (List.range' 95 5).all okY = true := by decide +kernel
set_option maxRecDepth 40000 in
theorem okc_20 : (List.range' 100 5).all okY = true := by decide +kernel
set_option maxRecDepth 40000 in
theorem okc_21 : (List.range' 105 5).all okY = true := by decide +kernel
set_option maxRecDepth 40000 in
theorem okc_22 : (List.range' 110 5).all okY = true := by decide +kernel
set_option maxRecDepth 40000 in
theorem okc_23 : (List.range' 115 5).all okY = true := by decide +kernel
set_option maxRecDepth 40000 in
theorem okc_24 : (List.range' 120 5).all okY = true := by decide +kernel
set_option maxRecDepth 40000 in
theorem okc_25 : (List.range' 125 5).all okY = true := by decide +kernel
set_option maxRecDepth 40000 in
theorem okc_26 : (List.range' 130 5).all okY = true := by decide +kernel
set_option maxRecDepth 40000 in
theorem okc_27 : (List.range' 135 5).all okY = true := by decide +kernel
set_option maxRecDepth 40000 in
theorem okc_28 : (List.range' 140 5).all okY = true := by decide +kernel
set_option maxRecDepth 40000 in
theorem okc_29 : (List.range' 145 5).all okY = true := by decide +kernel
