/-! the tables of code hold what the class files hold: method by method -/
def rtOk (rt : Nat) (ret : Option FieldType) : Bool := match rt, ret with
  | 0, none => true
  | 1, some .int => true
  | 2, some .long => true
  | 3, some (.object _) => true
  | 3, some (.array _) => true
  | 4, some .boolean => true
  | _, _ => false
def okY (y : Nat) : Bool := match nth MT y, nth YL y with
  | some m, some q => gd m.1 (decide (q.1.name = "<init>")) q.2.1 m.2.2.2 && Nat.beq q.2.2.1 m.2.1 && rtOk m.2.2.1 q.2.2.2.1 && decide (q.1.cls = RN m.1)
  | _, _ => false
set_option maxRecDepth 40000 in
theorem okc_0 : (List.range' 0 5).all okY = true := by decide +kernel
set_option maxRecDepth 40000 in
theorem okc_1 : (List.range' 5 5).all okY = true := by decide +kernel
set_option maxRecDepth 40000 in
theorem okc_2 : (List.range' 10 5).all okY = true := by decide +kernel
set_option maxRecDepth 40000 in
theorem okc_3 : (List.range' 15 5).all okY = true := by decide +kernel
set_option maxRecDepth 40000 in
theorem okc_4 : (List.range' 20 5).all okY = true := by decide +kernel
set_option maxRecDepth 40000 in
theorem okc_5 : (List.range' 25 5).all okY = true := by decide +kernel
set_option maxRecDepth 40000 in
theorem okc_6 : (List.range' 30 5).all okY = true := by decide +kernel
set_option maxRecDepth 40000 in
theorem okc_7 : (List.range' 35 5).all okY = true := by decide +kernel
set_option maxRecDepth 40000 in
theorem okc_8 : (List.range' 40 5).all okY = true := by decide +kernel
set_option maxRecDepth 40000 in
theorem okc_9 : (List.range' 45 5).all okY = true := by decide +kernel
set_option maxRecDepth 40000 in
theorem okc_10 : (List.range' 50 5).all okY = true := by decide +kernel
set_option maxRecDepth 40000 in
theorem okc_11 : (List.range' 55 5).all okY = true := by decide +kernel
set_option maxRecDepth 40000 in
theorem okc_12 : (List.range' 60 5).all okY = true := by decide +kernel
set_option maxRecDepth 40000 in
theorem okc_13 : (List.range' 65 5).all okY = true := by decide +kernel
set_option maxRecDepth 40000 in
theorem okc_14 : (List.range' 70 5).all okY = true := by decide +kernel
