set_option maxRecDepth 40000 in
theorem okc_30 : (List.range' 150 5).all okY = true := by decide +kernel
set_option maxRecDepth 40000 in
theorem okc_31 : (List.range' 155 5).all okY = true := by decide +kernel
set_option maxRecDepth 40000 in
theorem okc_32 : (List.range' 160 5).all okY = true := by decide +kernel
set_option maxRecDepth 40000 in
theorem okc_33 : (List.range' 165 5).all okY = true := by decide +kernel
set_option maxRecDepth 40000 in
theorem okc_34 : (List.range' 170 5).all okY = true := by decide +kernel
set_option maxRecDepth 40000 in
theorem okc_35 : (List.range' 175 5).all okY = true := by decide +kernel
set_option maxRecDepth 40000 in
theorem okc_36 : (List.range' 180 5).all okY = true := by decide +kernel
set_option maxRecDepth 40000 in
theorem okc_37 : (List.range' 185 5).all okY = true := by decide +kernel
set_option maxRecDepth 40000 in
theorem okc_38 : (List.range' 190 5).all okY = true := by decide +kernel
set_option maxRecDepth 40000 in
theorem okc_39 : (List.range' 195 5).all okY = true := by decide +kernel
set_option maxRecDepth 40000 in
theorem okc_40 : (List.range' 200 5).all okY = true := by decide +kernel
set_option maxRecDepth 40000 in
theorem okc_41 : (List.range' 205 5).all okY = true := by decide +kernel
set_option maxRecDepth 40000 in
theorem okc_42 : (List.range' 210 5).all okY = true := by decide +kernel
set_option maxRecDepth 40000 in
theorem okc_43 : (List.range' 215 5).all okY = true := by decide +kernel
set_option maxRecDepth 40000 in
theorem okc_44 : (List.range' 220 5).all okY = true := by decide +kernel
