set_option maxRecDepth 100000 in
theorem ck_7 : (List.range 8).all (fun j => chkM (56 + j)) = true := by decide +kernel
set_option maxRecDepth 100000 in
theorem ck_8 : (List.range 8).all (fun j => chkM (64 + j)) = true := by decide +kernel
set_option maxRecDepth 100000 in
theorem ck_9 : (List.range 8).all (fun j => chkM (72 + j)) = true := by decide +kernel
set_option maxRecDepth 100000 in
theorem ck_10 : (List.range 8).all (fun j => chkM (80 + j)) = true := by decide +kernel
set_option maxRecDepth 100000 in
theorem ck_11 : (List.range 8).all (fun j => chkM (88 + j)) = true := by decide +kernel
