set_option maxRecDepth 100000 in
theorem TBf : ∀ w ∈ FTL.flatMap fW1, w ∈ lw_tbl := by decide +kernel
set_option maxRecDepth 100000 in
theorem TBcl : ∀ w ∈ CTL.flatMap cW1, w ∈ lw_tbl := by decide +kernel
set_option maxRecDepth 100000 in
theorem TBo : ∀ w ∈ OTL.map (fun q => Cond.methodLink (fR q.1) q.2 Lib.objectInit), w ∈ lw_tbl := by decide +kernel
set_option maxRecDepth 100000 in
theorem TBk : ∀ w ∈ KTL.map (fun q => Cond.constant (fR q.1) q.2.1 q.2.2), w ∈ lw_tbl := by decide +kernel
