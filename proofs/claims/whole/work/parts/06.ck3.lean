set_option maxRecDepth 100000 in
theorem ck_16 : (List.range 8).all (fun j => chkM (128 + j)) = true := by decide +kernel
set_option maxRecDepth 100000 in
theorem ck_17 : (List.range 8).all (fun j => chkM (136 + j)) = true := by decide +kernel
set_option maxRecDepth 100000 in
theorem ck_18 : (List.range 8).all (fun j => chkM (144 + j)) = true := by decide +kernel
set_option maxRecDepth 100000 in
theorem ck_19 : (List.range 8).all (fun j => chkM (152 + j)) = true := by decide +kernel
