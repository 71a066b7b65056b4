set_option maxRecDepth 100000 in
theorem kks_15 : ((kks.drop 180).take 12).all (fun q => kOk q.1 q.2) = true := by decide +kernel
set_option maxRecDepth 100000 in
theorem kks_16 : ((kks.drop 192).take 12).all (fun q => kOk q.1 q.2) = true := by decide +kernel
set_option maxRecDepth 100000 in
theorem kks_17 : ((kks.drop 204).take 12).all (fun q => kOk q.1 q.2) = true := by decide +kernel
set_option maxRecDepth 100000 in
theorem kks_18 : ((kks.drop 216).take 12).all (fun q => kOk q.1 q.2) = true := by decide +kernel
set_option maxRecDepth 100000 in
theorem kks_19 : ((kks.drop 228).take 12).all (fun q => kOk q.1 q.2) = true := by decide +kernel
