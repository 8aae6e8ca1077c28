-- THE LAW'S WRAPPERS (written by gen/wrap.py)
theorem hL_fibre : MOKH mL_fibre "fibre" 5 (some (.int)) cL_fibre [(0, 7, 10, 13), (0, 7, 14, 15)] := ⟨rfl, rfl, rfl, rfl, rfl, rfl, by simp, by decide, by decide +kernel⟩
theorem hL_spin : MOKH mL_spin "spin" 7 (some (.int)) cL_spin [(0, 14, 17, 13), (0, 14, 21, 15), (0, 14, 25, 21)] := ⟨rfl, rfl, rfl, rfl, rfl, rfl, by simp, by decide, by decide +kernel⟩
theorem hL_lay : MOKH mL_lay "lay" 7 (some (.int)) cL_lay [(0, 14, 17, 13), (0, 14, 21, 15), (0, 14, 25, 21)] := ⟨rfl, rfl, rfl, rfl, rfl, rfl, by simp, by decide, by decide +kernel⟩
theorem hL_cut : MOKH mL_cut "cut" 5 (some (.int)) cL_cut [(0, 10, 13, 13), (0, 10, 17, 15), (0, 10, 21, 21)] := ⟨rfl, rfl, rfl, rfl, rfl, rfl, by simp, by decide, by decide +kernel⟩
theorem hL_order : MOKH mL_order "order" 5 (some (.int)) cL_order [(0, 10, 13, 15), (0, 10, 17, 21)] := ⟨rfl, rfl, rfl, rfl, rfl, rfl, by simp, by decide, by decide +kernel⟩
theorem hL_splice : MOKH mL_splice "splice" 6 (some (.int)) cL_splice [(0, 12, 15, 13), (0, 12, 19, 15), (0, 12, 23, 21)] := ⟨rfl, rfl, rfl, rfl, rfl, rfl, by simp, by decide, by decide +kernel⟩
theorem hL_load : MOKH mL_load "load" 5 (some (.int)) cL_load [(0, 10, 13, 13), (0, 10, 17, 15), (0, 10, 21, 21)] := ⟨rfl, rfl, rfl, rfl, rfl, rfl, by simp, by decide, by decide +kernel⟩
theorem hL_sun : MOKH mL_sun "sun" 4 (some (.int)) cL_sun [(0, 9, 12, 15)] := ⟨rfl, rfl, rfl, rfl, rfl, rfl, by simp, by decide, by decide +kernel⟩
theorem hL_lineOf : MOKH mL_lineOf "lineOf" 5 (some (.int)) cL_lineOf [(0, 10, 13, 13), (0, 10, 17, 15)] := ⟨rfl, rfl, rfl, rfl, rfl, rfl, by simp, by decide, by decide +kernel⟩
theorem hL_yarns : MOKH mL_yarns "yarns" 4 (some (.int)) cL_yarns [(0, 9, 12, 13)] := ⟨rfl, rfl, rfl, rfl, rfl, rfl, by simp, by decide, by decide +kernel⟩
theorem hL_rig : MOKH mL_rig "rig" 6 (some (.int)) cL_rig [(0, 12, 15, 13), (0, 12, 19, 15), (0, 12, 23, 21)] := ⟨rfl, rfl, rfl, rfl, rfl, rfl, by simp, by decide, by decide +kernel⟩
theorem hL_pull : MOKH mL_pull "pull" 5 (some (.int)) cL_pull [(0, 10, 13, 13), (0, 10, 17, 15)] := ⟨rfl, rfl, rfl, rfl, rfl, rfl, by simp, by decide, by decide +kernel⟩
theorem hL_lift : MOKH mL_lift "lift" 5 (some (.int)) cL_lift [(0, 17, 20, 13), (0, 17, 24, 15)] := ⟨rfl, rfl, rfl, rfl, rfl, rfl, by simp, by decide, by decide +kernel⟩
theorem hL_series : MOKH mL_series "series" 6 (some (.int)) cL_series [(0, 12, 15, 13), (0, 12, 19, 15)] := ⟨rfl, rfl, rfl, rfl, rfl, rfl, by simp, by decide, by decide +kernel⟩
theorem hL_holds : MOKH mL_holds "holds" 7 (some (.int)) cL_holds [(0, 13, 16, 15)] := ⟨rfl, rfl, rfl, rfl, rfl, rfl, by simp, by decide, by decide +kernel⟩
theorem hL_braid : MOKH mL_braid "braid" 4 (some (.int)) cL_braid [(0, 9, 12, 15)] := ⟨rfl, rfl, rfl, rfl, rfl, rfl, by simp, by decide, by decide +kernel⟩
theorem hL_cross : MOKH mL_cross "cross" 5 (some (.int)) cL_cross [(0, 10, 13, 13), (0, 10, 17, 21)] := ⟨rfl, rfl, rfl, rfl, rfl, rfl, by simp, by decide, by decide +kernel⟩
theorem hL_carrier : MOKH mL_carrier "carrier" 4 (some (.int)) cL_carrier [(0, 9, 12, 13)] := ⟨rfl, rfl, rfl, rfl, rfl, rfl, by simp, by decide, by decide +kernel⟩
theorem hL_over : MOKH mL_over "over" 5 (some (.int)) cL_over [(0, 10, 13, 13), (0, 10, 17, 15)] := ⟨rfl, rfl, rfl, rfl, rfl, rfl, by simp, by decide, by decide +kernel⟩
theorem hL_net : MOKH mL_net "net" 5 (some (.int)) cL_net [(0, 10, 13, 15), (0, 10, 17, 21)] := ⟨rfl, rfl, rfl, rfl, rfl, rfl, by simp, by decide, by decide +kernel⟩
theorem hL_tear : MOKH mL_tear "tear" 7 (some (.int)) cL_tear [(0, 14, 17, 13), (0, 14, 21, 21)] := ⟨rfl, rfl, rfl, rfl, rfl, rfl, by simp, by decide, by decide +kernel⟩
theorem hL_hole : MOKH mL_hole "hole" 8 (some (.int)) cL_hole [(0, 16, 19, 13), (0, 16, 23, 15)] := ⟨rfl, rfl, rfl, rfl, rfl, rfl, by simp, by decide, by decide +kernel⟩
theorem hL_twines : MOKH mL_twines "twines" 4 (some (.int)) cL_twines [(0, 9, 12, 13)] := ⟨rfl, rfl, rfl, rfl, rfl, rfl, by simp, by decide, by decide +kernel⟩
theorem hL_twinesAnew : MOKH mL_twinesAnew "twinesAnew" 4 (some (.int)) cL_twinesAnew [(0, 9, 12, 13)] := ⟨rfl, rfl, rfl, rfl, rfl, rfl, by simp, by decide, by decide +kernel⟩
theorem hL_mend : MOKH mL_mend "mend" 5 (some (.int)) cL_mend [(0, 10, 13, 13), (0, 10, 17, 15)] := ⟨rfl, rfl, rfl, rfl, rfl, rfl, by simp, by decide, by decide +kernel⟩
theorem hL_join : MOKH mL_join "join" 6 (some (.int)) cL_join [(0, 12, 15, 15)] := ⟨rfl, rfl, rfl, rfl, rfl, rfl, by simp, by decide, by decide +kernel⟩
theorem hL_depth : MOKH mL_depth "depth" 6 (some (.int)) cL_depth [(0, 12, 15, 15)] := ⟨rfl, rfl, rfl, rfl, rfl, rfl, by simp, by decide, by decide +kernel⟩
def StpW (oa : Nat) (B : Bk) (S : St) (B2 : Bk) (S2 : St) (g g2 : HP) : Prop := (∀ a, g a ≠ none → ¬ own B S a → a ≠ oa → g2 a = g a) ∧ ∀ a, own B2 S2 a → own B S a ∨ g a = none
theorem StpW.rf {oa : Nat} {B : Bk} {S : St} {g : HP} : StpW oa B S B S g g := ⟨fun _ _ _ _ => rfl, fun _ h => Or.inl h⟩
theorem wr_out {oa : Nat} {B B2 : Bk} {S S2 : St} {g g2 : HP} {fo : Nat → Int64} (ho : g oa = some (hL 1 fo)) (hno : ¬ own B S oa) (hW2 : CW B2 S2 g2) (hs : StpC B S B2 S2 g g2) (v : Int64) : g2 oa = some (hL 1 fo) ∧ CW B2 S2 (hup g2 oa (hL 1 (vp_updL fo 0 v))) ∧ StpW oa B S B2 S2 g (hup g2 oa (hL 1 (vp_updL fo 0 v))) ∧ hup g2 oa (hL 1 (vp_updL fo 0 v)) oa = some (hL 1 (vp_updL fo 0 v)) := by
  have h0 : g oa ≠ none := by rw [ho]; exact Option.some_ne_none _
  refine ⟨by rw [hs.1 oa h0 hno]; exact ho, hW2.new (fun h => ?_), ⟨fun a h1 h2 h3 => by rw [hup_n h3]; exact hs.1 a h1 h2, hs.2⟩, hup_s⟩
  rcases hs.2 oa h with h | h
  · exact hno h
  · exact h0 h
theorem Xh_i {d : DD} {mi : MInfo} {e U : Nat} {Post : Out → HP → Prop} {hh : List (Nat × Nat × Nat × Nat)} {pc x : Nat} {L : List (Nat × Value)} {g : HP} {b : Nat} {F : Option Value → Prop} (t : Nat) (ht : hFind pc x hh = some t) (k : ∀ q, J d mi (rmOf e U) (jZ d U Post) t L [.ref q] g b) : onOut (.inr x) F (fun x => x < 3 → Xh d mi e U Post hh pc L x g b) := fun _ => ⟨t, ht, k⟩
theorem v01 : vp_in (0 : Int32) 1 := vp_in_nI (n := 0) (by decide) (by decide)
theorem c00 : (0 : Int32).toNatClampNeg = 0 := by decide
