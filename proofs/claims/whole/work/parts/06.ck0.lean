set_option maxRecDepth 100000 in
theorem ck_0 : (List.range 8).all (fun j => chkM (0 + j)) = true := by decide +kernel
set_option maxRecDepth 100000 in
theorem ck_1 : (List.range 8).all (fun j => chkM (8 + j)) = true := by decide +kernel
set_option maxRecDepth 100000 in
theorem ck_2 : (List.range 8).all (fun j => chkM (16 + j)) = true := by decide +kernel
set_option maxRecDepth 100000 in
theorem ck_3 : (List.range 8).all (fun j => chkM (24 + j)) = true := by decide +kernel
set_option maxRecDepth 100000 in
theorem ck_4 : (List.range 8).all (fun j => chkM (32 + j)) = true := by decide +kernel
set_option maxRecDepth 100000 in
theorem ck_5 : (List.range 8).all (fun j => chkM (40 + j)) = true := by decide +kernel
set_option maxRecDepth 100000 in
theorem ck_6 : (List.range 8).all (fun j => chkM (48 + j)) = true := by decide +kernel
