def nwOK (w : Cond) : Bool := match w with
  | .castable _ _ => true
  | .fieldLinkNest _ _ _ _ _ _ => true
  | .methodLinkNest _ _ _ _ => true
  | .declares _ => true
  | _ => false
set_option maxRecDepth 100000 in
theorem TB_good : TB.all goodWord = true := by decide +kernel
set_option maxRecDepth 100000 in
theorem NB_ok : NB.all nwOK = true := by decide +kernel
set_option maxRecDepth 100000 in
theorem NB_tbl : ∀ w ∈ NB, w ∈ lw_tbl := by decide +kernel
