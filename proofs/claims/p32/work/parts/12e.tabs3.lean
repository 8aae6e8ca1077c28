set_option maxRecDepth 100000 in
theorem TBl : ∀ w ∈ LTL.map (fun q => Cond.constantLong (fR q.1) q.2.1 q.2.2), w ∈ lw_tbl := by decide +kernel
set_option maxRecDepth 100000 in
theorem TBx : ∀ w ∈ XTL.flatMap (fun q => [Cond.classLink RX6 q.1 (exN q.2.2), Cond.initialized (exN q.2.2)] ++ (vx_atS RX6 q.2.1 (exN q.2.2) exNames).filter goodWord), w ∈ lw_tbl := by decide +kernel
set_option maxRecDepth 100000 in
theorem TBh : ∀ w ∈ HTL.map (fun q => Cond.classLink RL q.1 (exN q.2)), w ∈ lw_tbl := by decide +kernel
set_option maxRecDepth 100000 in
theorem TBu : ∀ w ∈ (List.range 7).flatMap (fun ci => u_ws (fR ci) (fT ci) (fN ci)), w ∈ lw_tbl := by decide +kernel
set_option maxRecDepth 100000 in
theorem TBz : ∀ w ∈ ([.instanceMethod Lib.objectInit, .code Lib.objectInit ⟨#[0xb1]⟩ 1 none, .arrayClass .int, .arrayClass .boolean] : List Cond), w ∈ lw_tbl := by decide +kernel
theorem TBm_8 : ∀ w ∈ MTL_8.flatMap mW1, w ∈ lw_tbl := by
  intro w h
  have h : w ∈ [(8, 221, mL_netHolds, 0, "", 99), (8, 225, mL_linesHold, 0, "", 99)].flatMap mW1 ++ [Cond.methodLink RL 228 yL_refuses, Cond.static yL_refuses, Cond.initialized RL, Cond.code yL_refuses cL_refuses 2 (some (.boolean))] := h
  rcases List.mem_append.mp h with h | h
  · exact tbm_mem TBm_8a w h
  · simp only [List.mem_cons, List.not_mem_nil, or_false] at h
    have hb := TBm_8b
    simp only [List.map_cons, List.map_nil, List.cons.injEq, and_true] at hb
    obtain ⟨h1, h2, h3⟩ := hb
    rcases h with rfl | rfl | rfl | rfl
    · exact List.mem_of_getElem? h1
    · exact List.mem_of_getElem? h2
    · exact List.mem_of_getElem? h3
    · exact List.mem_of_getElem? TBm_8c
theorem TBm : ∀ w ∈ MTL.flatMap mW1, w ∈ lw_tbl := by
  unfold MTL
  simp only [List.flatMap_append, List.mem_append]
  intro w h
  rcases h with h | h | h | h | h | h | h | h | h
  · exact tbm_mem TBm_0 w h
  · exact tbm_mem TBm_1 w h
  · exact tbm_mem TBm_2 w h
  · exact tbm_mem TBm_3 w h
  · exact tbm_mem TBm_4 w h
  · exact tbm_mem TBm_5 w h
  · exact tbm_mem TBm_6 w h
  · exact tbm_mem TBm_7 w h
  · exact TBm_8 w h
theorem TB_tbl : ∀ w ∈ TB, w ∈ lw_tbl := by
  unfold TB
  intro w h
  rcases List.mem_append.mp h with h | h
  · exact TBm w h
  rcases List.mem_append.mp h with h | h
  · exact TBf w h
  rcases List.mem_append.mp h with h | h
  · exact TBcl w h
  rcases List.mem_append.mp h with h | h
  · exact TBo w h
  rcases List.mem_append.mp h with h | h
  · exact TBk w h
  rcases List.mem_append.mp h with h | h
  · exact TBl w h
  rcases List.mem_append.mp h with h | h
  · exact TBx w h
  rcases List.mem_append.mp h with h | h
  · exact TBh w h
  rcases List.mem_append.mp h with h | h
  · exact TBu w h
  · exact TBz w h
