set_option maxRecDepth 100000 in
theorem kks_5 : ((kks.drop 60).take 12).all (fun q => kOk q.1 q.2) = true := by decide +kernel
set_option maxRecDepth 100000 in
theorem kks_6 : ((kks.drop 72).take 12).all (fun q => kOk q.1 q.2) = true := by decide +kernel
set_option maxRecDepth 100000 in
theorem kks_7 : ((kks.drop 84).take 12).all (fun q => kOk q.1 q.2) = true := by decide +kernel
set_option maxRecDepth 100000 in
theorem kks_8 : ((kks.drop 96).take 12).all (fun q => kOk q.1 q.2) = true := by decide +kernel
set_option maxRecDepth 100000 in
theorem kks_9 : ((kks.drop 108).take 12).all (fun q => kOk q.1 q.2) = true := by decide +kernel
