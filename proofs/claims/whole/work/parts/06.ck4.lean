set_option maxRecDepth 100000 in
theorem ck_20 : (List.range 7).all (fun j => chkM (160 + j)) = true := by decide +kernel
set_option maxRecDepth 100000 in
theorem ck_L0 : (List.range 112).all (fun j => chk 167 (0 + j)) = true := by decide +kernel
set_option maxRecDepth 100000 in
theorem ck_L1 : (List.range 112).all (fun j => chk 167 (112 + j)) = true := by decide +kernel
set_option maxRecDepth 100000 in
theorem ck_L2 : (List.range 112).all (fun j => chk 167 (224 + j)) = true := by decide +kernel
set_option maxRecDepth 100000 in
theorem ck_L3 : (List.range 112).all (fun j => chk 167 (336 + j)) = true := by decide +kernel
