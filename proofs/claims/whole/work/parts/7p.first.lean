/-! the first state: more of it -/
set_option maxRecDepth 100000 in
theorem zM1_W8 : zM1.map (fun S => (List.range 121).all fun k => zI S 78 k == wrow.getD k 0) = some true := by decide +kernel
set_option maxRecDepth 100000 in
theorem zM1_74 : zM1.map (fun S => (List.range 207).all fun k => zI S 74 k == (if k = 194 then 1 else if k = 199 then -1 else 0)) = some true := by decide +kernel
set_option maxRecDepth 100000 in
theorem zM1_A : zM1.map (fun S => zA S 54 == 7 && zA S 51 == 436) = some true := by decide +kernel
set_option maxRecDepth 100000 in
theorem zM1_r54 (k : Nat) : zM1.map (fun S => zI S 54 k) = some 0 := rfl
