set_option maxRecDepth 100000 in
theorem ck_L4 : (List.range 112).all (fun j => chk 167 (448 + j)) = true := by decide +kernel
set_option maxRecDepth 100000 in
theorem ck_L5 : (List.range 112).all (fun j => chk 167 (560 + j)) = true := by decide +kernel
set_option maxRecDepth 100000 in
theorem ck_L6 : (List.range 112).all (fun j => chk 167 (672 + j)) = true := by decide +kernel
set_option maxRecDepth 100000 in
theorem ck_L7 : (List.range 112).all (fun j => chk 167 (784 + j)) = true := by decide +kernel
set_option maxRecDepth 100000 in
theorem ck_L8 : (List.range 112).all (fun j => chk 167 (896 + j)) = true := by decide +kernel
