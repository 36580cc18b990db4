set_option maxRecDepth 40000 in
theorem okc_45 : (List.range' 225 5).all okY = true := by decide +kernel
set_option maxRecDepth 40000 in
theorem okc_46 : (List.range' 230 5).all okY = true := by decide +kernel
set_option maxRecDepth 40000 in
theorem okc_47 : (List.range' 235 5).all okY = true := by decide +kernel
set_option maxRecDepth 40000 in
theorem okc_48 : (List.range' 240 5).all okY = true := by decide +kernel
set_option maxRecDepth 40000 in
theorem okc_49 : (List.range' 245 5).all okY = true := by decide +kernel
set_option maxRecDepth 40000 in
theorem okc_50 : (List.range' 250 5).all okY = true := by decide +kernel
set_option maxRecDepth 40000 in
theorem okc_51 : (List.range' 255 5).all okY = true := by decide +kernel
set_option maxRecDepth 40000 in
theorem okc_52 : (List.range' 260 5).all okY = true := by decide +kernel
set_option maxRecDepth 40000 in
theorem okc_53 : (List.range' 265 5).all okY = true := by decide +kernel
set_option maxRecDepth 40000 in
theorem okc_54 : (List.range' 270 5).all okY = true := by decide +kernel
set_option maxRecDepth 40000 in
theorem okc_55 : (List.range' 275 5).all okY = true := by decide +kernel
set_option maxRecDepth 40000 in
theorem okc_56 : (List.range' 280 5).all okY = true := by decide +kernel
set_option maxRecDepth 40000 in
theorem okc_57 : (List.range' 285 5).all okY = true := by decide +kernel
set_option maxRecDepth 40000 in
theorem okc_58 : (List.range' 290 5).all okY = true := by decide +kernel
set_option maxRecDepth 40000 in
theorem okc_59 : (List.range' 295 5).all okY = true := by decide +kernel
