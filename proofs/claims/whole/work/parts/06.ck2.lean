set_option maxRecDepth 100000 in
theorem ck_12 : (List.range 8).all (fun j => chkM (96 + j)) = true := by decide +kernel
set_option maxRecDepth 100000 in
theorem ck_13 : (List.range 8).all (fun j => chkM (104 + j)) = true := by decide +kernel
set_option maxRecDepth 100000 in
theorem ck_14 : (List.range 8).all (fun j => chkM (112 + j)) = true := by decide +kernel
set_option maxRecDepth 100000 in
theorem ck_15 : (List.range 8).all (fun j => chkM (120 + j)) = true := by decide +kernel
