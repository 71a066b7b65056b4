set_option maxRecDepth 100000 in
theorem kks_0 : ((kks.drop 0).take 12).all (fun q => kOk q.1 q.2) = true := by decide +kernel
set_option maxRecDepth 100000 in
theorem kks_1 : ((kks.drop 12).take 12).all (fun q => kOk q.1 q.2) = true := by decide +kernel
set_option maxRecDepth 100000 in
theorem kks_2 : ((kks.drop 24).take 12).all (fun q => kOk q.1 q.2) = true := by decide +kernel
set_option maxRecDepth 100000 in
theorem kks_3 : ((kks.drop 36).take 12).all (fun q => kOk q.1 q.2) = true := by decide +kernel
set_option maxRecDepth 100000 in
theorem kks_4 : ((kks.drop 48).take 12).all (fun q => kOk q.1 q.2) = true := by decide +kernel
