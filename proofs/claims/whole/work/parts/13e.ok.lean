theorem rg_use {a c y : Nat} (h : (List.range' a c).all okY = true) (h1 : a ≤ y) (h2 : y < a + c) : okY y = true := List.all_eq_true.mp h y (List.mem_range'_1.mpr ⟨h1, h2⟩)
theorem okY_all {y : Nat} (h : y < 300) : okY y = true := by
  by_cases h0 : y < 5
  · exact rg_use okc_0 (by omega) (by omega)
  by_cases h1 : y < 10
  · exact rg_use okc_1 (by omega) (by omega)
  by_cases h2 : y < 15
  · exact rg_use okc_2 (by omega) (by omega)
  by_cases h3 : y < 20
  · exact rg_use okc_3 (by omega) (by omega)
  by_cases h4 : y < 25
  · exact rg_use okc_4 (by omega) (by omega)
  by_cases h5 : y < 30
  · exact rg_use okc_5 (by omega) (by omega)
  by_cases h6 : y < 35
  · exact rg_use okc_6 (by omega) (by omega)
  by_cases h7 : y < 40
  · exact rg_use okc_7 (by omega) (by omega)
  by_cases h8 : y < 45
  · exact rg_use okc_8 (by omega) (by omega)
  by_cases h9 : y < 50
  · exact rg_use okc_9 (by omega) (by omega)
  by_cases h10 : y < 55
  · exact rg_use okc_10 (by omega) (by omega)
  by_cases h11 : y < 60
  · exact rg_use okc_11 (by omega) (by omega)
  by_cases h12 : y < 65
  · exact rg_use okc_12 (by omega) (by omega)
  by_cases h13 : y < 70
  · exact rg_use okc_13 (by omega) (by omega)
  by_cases h14 : y < 75
  · exact rg_use okc_14 (by omega) (by omega)
  by_cases h15 : y < 80
  · exact rg_use okc_15 (by omega) (by omega)
  by_cases h16 : y < 85
  · exact rg_use okc_16 (by omega) (by omega)
  by_cases h17 : y < 90
  · exact rg_use okc_17 (by omega) (by omega)
  by_cases h18 : y < 95
  · exact rg_use okc_18 (by omega) (by omega)
  by_cases h19 : y < 100
  · exact rg_use okc_19 (by omega) (by omega)
  by_cases h20 : y < 105
  · exact rg_use okc_20 (by omega) (by omega)
  by_cases h21 : y < 110
  · exact rg_use okc_21 (by omega) (by omega)
  by_cases h22 : y < 115
  · exact rg_use okc_22 (by omega) (by omega)
  by_cases h23 : y < 120
  · exact rg_use okc_23 (by omega) (by omega)
  by_cases h24 : y < 125
  · exact rg_use okc_24 (by omega) (by omega)
  by_cases h25 : y < 130
  · exact rg_use okc_25 (by omega) (by omega)
  by_cases h26 : y < 135
  · exact rg_use okc_26 (by omega) (by omega)
  by_cases h27 : y < 140
  · exact rg_use okc_27 (by omega) (by omega)
  by_cases h28 : y < 145
  · exact rg_use okc_28 (by omega) (by omega)
  by_cases h29 : y < 150
  · exact rg_use okc_29 (by omega) (by omega)
  by_cases h30 : y < 155
  · exact rg_use okc_30 (by omega) (by omega)
  by_cases h31 : y < 160
  · exact rg_use okc_31 (by omega) (by omega)
  by_cases h32 : y < 165
  · exact rg_use okc_32 (by omega) (by omega)
  by_cases h33 : y < 170
  · exact rg_use okc_33 (by omega) (by omega)
  by_cases h34 : y < 175
  · exact rg_use okc_34 (by omega) (by omega)
  by_cases h35 : y < 180
  · exact rg_use okc_35 (by omega) (by omega)
  by_cases h36 : y < 185
  · exact rg_use okc_36 (by omega) (by omega)
  by_cases h37 : y < 190
  · exact rg_use okc_37 (by omega) (by omega)
  by_cases h38 : y < 195
  · exact rg_use okc_38 (by omega) (by omega)
  by_cases h39 : y < 200
  · exact rg_use okc_39 (by omega) (by omega)
  by_cases h40 : y < 205
  · exact rg_use okc_40 (by omega) (by omega)
  by_cases h41 : y < 210
  · exact rg_use okc_41 (by omega) (by omega)
  by_cases h42 : y < 215
  · exact rg_use okc_42 (by omega) (by omega)
  by_cases h43 : y < 220
  · exact rg_use okc_43 (by omega) (by omega)
  by_cases h44 : y < 225
  · exact rg_use okc_44 (by omega) (by omega)
  by_cases h45 : y < 230
  · exact rg_use okc_45 (by omega) (by omega)
  by_cases h46 : y < 235
  · exact rg_use okc_46 (by omega) (by omega)
  by_cases h47 : y < 240
  · exact rg_use okc_47 (by omega) (by omega)
  by_cases h48 : y < 245
  · exact rg_use okc_48 (by omega) (by omega)
  by_cases h49 : y < 250
  · exact rg_use okc_49 (by omega) (by omega)
  by_cases h50 : y < 255
  · exact rg_use okc_50 (by omega) (by omega)
  by_cases h51 : y < 260
  · exact rg_use okc_51 (by omega) (by omega)
  by_cases h52 : y < 265
  · exact rg_use okc_52 (by omega) (by omega)
  by_cases h53 : y < 270
  · exact rg_use okc_53 (by omega) (by omega)
  by_cases h54 : y < 275
  · exact rg_use okc_54 (by omega) (by omega)
  by_cases h55 : y < 280
  · exact rg_use okc_55 (by omega) (by omega)
  by_cases h56 : y < 285
  · exact rg_use okc_56 (by omega) (by omega)
  by_cases h57 : y < 290
  · exact rg_use okc_57 (by omega) (by omega)
  by_cases h58 : y < 295
  · exact rg_use okc_58 (by omega) (by omega)
  by_cases h59 : y < 300
  · exact rg_use okc_59 (by omega) (by omega)
  omega
