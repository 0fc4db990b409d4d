set_option maxRecDepth 100000 in
theorem sm_i0 : (List.range' 0 12).all sm_iB = true := by decide +kernel
set_option maxRecDepth 100000 in
theorem sm_i1 : (List.range' 12 12).all sm_iB = true := by decide +kernel
set_option maxRecDepth 100000 in
theorem sm_i2 : (List.range' 24 12).all sm_iB = true := by decide +kernel
set_option maxRecDepth 100000 in
theorem sm_i3 : (List.range' 36 12).all sm_iB = true := by decide +kernel
set_option maxRecDepth 100000 in
theorem sm_i4 : (List.range' 48 12).all sm_iB = true := by decide +kernel
set_option maxRecDepth 100000 in
theorem sm_i5 : (List.range' 60 12).all sm_iB = true := by decide +kernel
set_option maxRecDepth 100000 in
theorem sm_i6 : (List.range' 72 12).all sm_iB = true := by decide +kernel
set_option maxRecDepth 100000 in
theorem sm_i7 : (List.range' 84 12).all sm_iB = true := by decide +kernel
set_option maxRecDepth 100000 in
theorem sm_i8 : (List.range' 96 12).all sm_iB = true := by decide +kernel
set_option maxRecDepth 100000 in
theorem sm_i9 : (List.range' 108 12).all sm_iB = true := by decide +kernel
set_option maxRecDepth 100000 in
theorem sm_i10 : (List.range' 120 12).all sm_iB = true := by decide +kernel
set_option maxRecDepth 100000 in
theorem sm_i11 : (List.range' 132 12).all sm_iB = true := by decide +kernel
set_option maxRecDepth 100000 in
theorem sm_i12 : (List.range' 144 12).all sm_iB = true := by decide +kernel
set_option maxRecDepth 100000 in
theorem sm_i13 : (List.range' 156 10).all sm_iB = true := by decide +kernel
