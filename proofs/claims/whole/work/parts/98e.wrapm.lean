-- THE MODEL'S CALLS AS RESULTS (written by gen/wrap.py)
section C98e
variable {d : DD} {g : HP} {Post : Out → HP → Prop} {M : Nat → Nat} {r : Int32} {S : St}
set_option maxRecDepth 100000 in
set_option maxHeartbeats 4000000 in
theorem c_M_fibre {x y z : Int32} (hI : Inv S) (hW : MW M S r g) (h : ∀ (g2 : HP), MW M (rs_fibre S x y z).2.2 (nI (rs_fibre S x y z).1) g2 → frM M g g2 → Post (.inl none) g2) : Ct d mX7_fibre 1 0 [.ref (M 0), .int x, .int y, .int z] g Post := by
  refine c_X7_fibre (hW := hW)  (k1 := fun q0 g2 hW2 hf2 => ?k1) (k2 := fun q1 q0 g2 hW2 hf2 => ?k2) (k0 := fun q1 q2 q3 g2 hW2 hf2 => ?k0)
  case k1 =>
    rw [rs_fibre_k1 q0] at h
    exact h g2 hW2 hf2
  case k2 =>
    rw [rs_fibre_k2 q1 q0] at h
    exact h g2 hW2 hf2
  case k0 =>
    rw [rs_fibre_k0 q1 q2 q3] at h
    exact h g2 hW2 hf2
set_option maxRecDepth 100000 in
set_option maxHeartbeats 4000000 in
theorem c_M_spin {x tw hd ln : Int32} (hI : Inv S) (hW : MW M S r g) (h : ∀ (a : Int32) (g2 : HP), MW M (rs_spin S x tw hd ln).2.2 (nI (rs_spin S x tw hd ln).1) g2 → frM M g g2 → (nI (rs_spin S x tw hd ln).1 = 0 → a.toInt64 = (rs_spin S x tw hd ln).2.1) → Post (.inl (some (.int a))) g2) : Ct d mX7_spin 1 0 [.ref (M 0), .int x, .int tw, .int hd, .int ln] g Post := by
  refine c_X7_spin (hW := hW) (hS := hI.1.1) (hb := fun i hi ht => (spin_m hI.2.1 hi ht).1.2) (k1 := fun q0 g2 hW2 hf2 => ?k1) (k2 := fun q1 q0 g2 hW2 hf2 => ?k2) (k3 := fun q1 q2 q3 q4 q0 g2 hW2 hf2 => ?k3) (k0 := fun q1 q2 q3 q4 q5 g2 hW2 hf2 => ?k0)
  case k1 =>
    rw [rs_spin_k1 q0] at h
    exact h 0 g2 hW2 hf2 (fun e => absurd (show nI 1 = 0 from e) (by decide))
  case k2 =>
    rw [rs_spin_k2 q1 q0] at h
    exact h 0 g2 hW2 hf2 (fun e => absurd (show nI 2 = 0 from e) (by decide))
  case k3 =>
    rw [rs_spin_k3 q1 q2 q3 q4 q0] at h
    exact h 0 g2 hW2 hf2 (fun e => absurd (show nI 3 = 0 from e) (by decide))
  case k0 =>
    rw [rs_spin_k0 q1 q2 q3 q4 q5] at h
    exact h _ g2 hW2 hf2 (fun _ => rfl)
set_option maxRecDepth 100000 in
set_option maxHeartbeats 4000000 in
theorem c_M_lay {x y z n : Int32} (hI : Inv S) (hW : MW M S r g) (h : ∀ (a : Int32) (g2 : HP), MW M (rs_lay S x y z n).2.2 (nI (rs_lay S x y z n).1) g2 → frM M g g2 → (nI (rs_lay S x y z n).1 = 0 → a.toInt64 = (rs_lay S x y z n).2.1) → Post (.inl (some (.int a))) g2) : Ct d mX7_lay 3 0 [.ref (M 0), .int x, .int y, .int z, .int n] g Post := by
  refine c_X7_lay (hW := hW) (hS := hI.1.1) (hb := fun i hi => hI.2.2.1.1.bearE i hi) (hz := fun i hi => ⟨(hI.2.2.1.1 i hi).bnd.2.2, (hI.2.2.1.1 i hi).bnd.2.1⟩) (hlen := lay_m hI.2.2.1.1) (k1 := fun q0 g2 hW2 hf2 => ?k1) (k2 := fun q1 q2 q3 q0 g2 hW2 hf2 => ?k2) (k3 := fun q1 q2 q3 q4 q5 q0 g2 hW2 hf2 => ?k3) (k0 := fun q1 q2 q3 q4 q5 q6 g2 hW2 hf2 => ?k0)
  case k1 =>
    rw [rs_lay_k1 q0] at h
    exact h 0 g2 hW2 hf2 (fun e => absurd (show nI 1 = 0 from e) (by decide))
  case k2 =>
    rw [rs_lay_k2 q1 q2 q3 q0] at h
    exact h 0 g2 hW2 hf2 (fun e => absurd (show nI 2 = 0 from e) (by decide))
  case k3 =>
    rw [rs_lay_k3 q1 q2 q3 q4 q5 q0] at h
    exact h 0 g2 hW2 hf2 (fun e => absurd (show nI 3 = 0 from e) (by decide))
  case k0 =>
    rw [rs_lay_k0 q1 q2 q3 q4 q5 q6] at h
    exact h _ g2 hW2 hf2 (fun _ => rfl)
set_option maxRecDepth 100000 in
set_option maxHeartbeats 4000000 in
theorem c_M_cut {x ln : Int32} (hI : Inv S) (hW : MW M S r g) (h : ∀ (a : Int32) (g2 : HP), MW M (rs_cut S x ln).2.2 (nI (rs_cut S x ln).1) g2 → frM M g g2 → (nI (rs_cut S x ln).1 = 0 → a.toInt64 = (rs_cut S x ln).2.1) → Post (.inl (some (.int a))) g2) : Ct d mX7_cut 3 0 [.ref (M 0), .int x, .int ln] g Post := by
  refine c_X7_cut (hW := hW) (hS := hI.1.1) (k1 := fun q0 g2 hW2 hf2 => ?k1) (k2 := fun q1 q0 g2 hW2 hf2 => ?k2) (k3 := fun q1 q2 q0 g2 hW2 hf2 => ?k3) (k0 := fun q1 q2 q3 q4 g2 hW2 hf2 => ?k0)
  case k1 =>
    rw [rs_cut_k1 q0] at h
    exact h 0 g2 hW2 hf2 (fun e => absurd (show nI 1 = 0 from e) (by decide))
  case k2 =>
    rw [rs_cut_k2 q1 q0] at h
    exact h 0 g2 hW2 hf2 (fun e => absurd (show nI 2 = 0 from e) (by decide))
  case k3 =>
    rw [rs_cut_k3 q1 q2 q0] at h
    exact h 0 g2 hW2 hf2 (fun e => absurd (show nI 3 = 0 from e) (by decide))
  case k0 =>
    rw [rs_cut_k0 q1 q2 q3 q4] at h
    exact h _ g2 hW2 hf2 (fun _ => rfl)
set_option maxRecDepth 100000 in
set_option maxHeartbeats 4000000 in
theorem c_M_order {kd ln : Int32} (hI : Inv S) (hW : MW M S r g) (h : ∀ (a : Int32) (g2 : HP), MW M (rs_order S kd ln).2.2 (nI (rs_order S kd ln).1) g2 → frM M g g2 → (nI (rs_order S kd ln).1 = 0 → a.toInt64 = (rs_order S kd ln).2.1) → Post (.inl (some (.int a))) g2) : Ct d mX7_order 3 0 [.ref (M 0), .int kd, .int ln] g Post := by
  refine c_X7_order (hW := hW) (hS := hI.1.1) (k2 := fun q0 g2 hW2 hf2 => ?k2) (k3 := fun q1 q2 q0 g2 hW2 hf2 => ?k3) (kn := fun q1 q2 q3 qs g2 hW2 hf2 => ?kn) (k0 := fun q1 q2 q3 i qs hi g2 hW2 hf2 => ?k0)
  case k2 =>
    rw [rs_order_k2 q0] at h
    exact h 0 g2 hW2 hf2 (fun e => absurd (show nI 1 = 0 from e) (by decide))
  case k3 =>
    rw [rs_order_k3 q1 q2 q0] at h
    exact h 0 g2 hW2 hf2 (fun e => absurd (show nI 2 = 0 from e) (by decide))
  case kn =>
    rw [rs_order_kn q1 q2 q3 qs] at h
    exact h _ g2 hW2 hf2 (fun _ => rfl)
  case k0 =>
    rw [rs_order_k0 q1 q2 q3 qs] at h
    exact h _ g2 hW2 hf2 (fun _ => rfl)
set_option maxRecDepth 100000 in
set_option maxHeartbeats 4000000 in
theorem c_M_splice {x y n : Int32} (hI : Inv S) (hW : MW M S r g) (h : ∀ (a : Int32) (g2 : HP), MW M (rs_splice S x y n).2.2 (nI (rs_splice S x y n).1) g2 → frM M g g2 → (nI (rs_splice S x y n).1 = 0 → a.toInt64 = (rs_splice S x y n).2.1) → Post (.inl (some (.int a))) g2) : Ct d mX7_splice 3 0 [.ref (M 0), .int x, .int y, .int n] g Post := by
  refine c_X7_splice (hW := hW) (hS := hI.1.1) (hb := fun i hi => hI.2.2.1.1.bearE i hi) (k1 := fun q0 g2 hW2 hf2 => ?k1) (k2 := fun q1 q2 q0 g2 hW2 hf2 => ?k2) (k3 := fun q1 q2 q3 q4 q0 g2 hW2 hf2 => ?k3) (k0 := fun q1 q2 q3 q4 q5 g2 hW2 hf2 => ?k0)
  case k1 =>
    rw [rs_splice_k1 q0] at h
    exact h 0 g2 hW2 hf2 (fun e => absurd (show nI 1 = 0 from e) (by decide))
  case k2 =>
    rw [rs_splice_k2 q1 q2 q0] at h
    exact h 0 g2 hW2 hf2 (fun e => absurd (show nI 2 = 0 from e) (by decide))
  case k3 =>
    rw [rs_splice_k3 q1 q2 q3 q4 q0] at h
    exact h 0 g2 hW2 hf2 (fun e => absurd (show nI 3 = 0 from e) (by decide))
  case k0 =>
    rw [rs_splice_k0 q1 q2 q3 q4 q5] at h
    exact h _ g2 hW2 hf2 (fun _ => rfl)
set_option maxRecDepth 100000 in
set_option maxHeartbeats 4000000 in
theorem c_M_load {x f : Int32} (hI : Inv S) (hW : MW M S r g) (h : ∀ (a : Int32) (g2 : HP), MW M (rs_load S x f).2.2 (nI (rs_load S x f).1) g2 → frM M g g2 → (nI (rs_load S x f).1 = 0 → a.toInt64 = (rs_load S x f).2.1) → Post (.inl (some (.int a))) g2) : Ct d mX7_load 3 0 [.ref (M 0), .int x, .int f] g Post := by
  refine c_X7_load (hW := hW) (hS := hI.1.1) (hb := fun i hi => hI.2.2.1.1.bearE i hi) (hm := fun i hi hf hb => hI.2.2.1.1.ld hi hf hb) (k1 := fun q0 g2 hW2 hf2 => ?k1) (k2 := fun q1 q0 g2 hW2 hf2 => ?k2) (k3 := fun q1 q2 q0 g2 hW2 hf2 => ?k3) (k0 := fun q1 q2 q3 g2 hW2 hf2 => ?k0)
  case k1 =>
    rw [rs_load_k1 q0] at h
    exact h 0 g2 hW2 hf2 (fun e => absurd (show nI 1 = 0 from e) (by decide))
  case k2 =>
    rw [rs_load_k2 q1 q0] at h
    exact h 0 g2 hW2 hf2 (fun e => absurd (show nI 2 = 0 from e) (by decide))
  case k3 =>
    rw [rs_load_k3 q1 q2 q0] at h
    exact h 0 g2 hW2 hf2 (fun e => absurd (show nI 3 = 0 from e) (by decide))
  case k0 =>
    rw [rs_load_k0 q1 q2 q3] at h
    exact h _ g2 hW2 hf2 (fun _ => rfl)
set_option maxRecDepth 100000 in
set_option maxHeartbeats 4000000 in
theorem c_M_sun {x : Int32} (hI : Inv S) (hW : MW M S r g) (h : ∀ (a : Int32) (g2 : HP), MW M (rs_sun S x).2.2 (nI (rs_sun S x).1) g2 → frM M g g2 → (nI (rs_sun S x).1 = 0 → a.toInt64 = (rs_sun S x).2.1) → Post (.inl (some (.int a))) g2) : Ct d mX7_sun 1 0 [.ref (M 0), .int x] g Post := by
  refine c_X7_sun (hW := hW) (hS := hI.1.1) (k2 := fun q0 g2 hW2 hf2 => ?k2) (k0 := fun q1 g2 hW2 hf2 => ?k0)
  case k2 =>
    rw [rs_sun_k2 q0] at h
    exact h 0 g2 hW2 hf2 (fun e => absurd (show nI 1 = 0 from e) (by decide))
  case k0 =>
    rw [rs_sun_k0 q1] at h
    exact h _ g2 hW2 hf2 (fun _ => rfl)
set_option maxRecDepth 100000 in
set_option maxHeartbeats 4000000 in
theorem c_M_lineOf {x w : Int32} (hI : Inv S) (hW : MW M S r g) (h : ∀ (a : Int32) (g2 : HP), MW M (rs_lineOf S x w).2.2 (nI (rs_lineOf S x w).1) g2 → frM M g g2 → (nI (rs_lineOf S x w).1 = 0 → a.toInt64 = (rs_lineOf S x w).2.1) → Post (.inl (some (.int a))) g2) : Ct d mX7_lineOf 2 0 [.ref (M 0), .int x, .int w] g Post := by
  refine c_X7_lineOf (hW := hW) (hS := hI.1.1) (hb := fun i hi => hI.2.2.1.1.bearE i hi) (k1 := fun q0 g2 hW2 hf2 => ?k1) (k2 := fun q1 q0 g2 hW2 hf2 => ?k2) (k0 := fun q1 q2 g2 hW2 hf2 => ?k0)
  case k1 =>
    rw [rs_lineOf_k1 q0] at h
    exact h 0 g2 hW2 hf2 (fun e => absurd (show nI 1 = 0 from e) (by decide))
  case k2 =>
    rw [rs_lineOf_k2 q1 q0] at h
    exact h 0 g2 hW2 hf2 (fun e => absurd (show nI 2 = 0 from e) (by decide))
  case k0 =>
    rw [rs_lineOf_k0 q1 q2] at h
    exact h _ g2 hW2 hf2 (fun _ => rfl)
set_option maxRecDepth 100000 in
set_option maxHeartbeats 4000000 in
theorem c_M_yarns {x : Int32} (hI : Inv S) (hW : MW M S r g) (h : ∀ (a : Int32) (g2 : HP), MW M (rs_yarns S x).2.2 (nI (rs_yarns S x).1) g2 → frM M g g2 → (nI (rs_yarns S x).1 = 0 → a.toInt64 = (rs_yarns S x).2.1) → Post (.inl (some (.int a))) g2) : Ct d mX7_yarns 2 0 [.ref (M 0), .int x] g Post := by
  refine c_X7_yarns (hW := hW) (hS := hI.1.1) (k1 := fun q0 g2 hW2 hf2 => ?k1) (k0 := fun q1 g2 hW2 hf2 => ?k0)
  case k1 =>
    rw [rs_yarns_k1 q0] at h
    exact h 0 g2 hW2 hf2 (fun e => absurd (show nI 1 = 0 from e) (by decide))
  case k0 =>
    rw [rs_yarns_k0 q1] at h
    exact h _ g2 hW2 hf2 (fun _ => rfl)
set_option maxRecDepth 100000 in
set_option maxHeartbeats 4000000 in
theorem c_M_rig {x y z : Int32} (hI : Inv S) (hW : MW M S r g) (h : ∀ (a : Int32) (g2 : HP), MW M (rs_rig S x y z).2.2 (nI (rs_rig S x y z).1) g2 → frM M g g2 → (nI (rs_rig S x y z).1 = 0 → a.toInt64 = (rs_rig S x y z).2.1) → Post (.inl (some (.int a))) g2) : Ct d mX7_rig 3 0 [.ref (M 0), .int x, .int y, .int z] g Post := by
  refine c_X7_rig (hW := hW) (hS := hI.1.1) (hS2 := hI.1.2.1) (k1 := fun q0 g2 hW2 hf2 => ?k1) (k2 := fun q1 q0 g2 hW2 hf2 => ?k2) (k3 := fun q1 q2 q3 q0 g2 hW2 hf2 => ?k3) (k0 := fun q1 q2 q3 q4 q5 g2 hW2 hf2 => ?k0)
  case k1 =>
    rw [rs_rig_k1 q0] at h
    exact h 0 g2 hW2 hf2 (fun e => absurd (show nI 1 = 0 from e) (by decide))
  case k2 =>
    rw [rs_rig_k2 q1 q0] at h
    exact h 0 g2 hW2 hf2 (fun e => absurd (show nI 2 = 0 from e) (by decide))
  case k3 =>
    rw [rs_rig_k3 q1 q2 q3 q0] at h
    exact h 0 g2 hW2 hf2 (fun e => absurd (show nI 3 = 0 from e) (by decide))
  case k0 =>
    rw [rs_rig_k0 q1 q2 q3 q4 q5] at h
    exact h _ g2 hW2 hf2 (fun _ => rfl)
set_option maxRecDepth 100000 in
set_option maxHeartbeats 4000000 in
theorem c_M_pull {x ld : Int32} (hI : Inv S) (hW : MW M S r g) (h : ∀ (a : Int32) (g2 : HP), MW M (rs_pull S x ld).2.2 (nI (rs_pull S x ld).1) g2 → frM M g g2 → (nI (rs_pull S x ld).1 = 0 → a.toInt64 = (rs_pull S x ld).2.1) → Post (.inl (some (.int a))) g2) : Ct d mX7_pull 2 0 [.ref (M 0), .int x, .int ld] g Post := by
  refine c_X7_pull (hW := hW) (hS := hI.1.2.1) (hp := hI.2.2.2.1.hp) (hpl := hI.2.2.2.1.hpl) (k1 := fun q0 g2 hW2 hf2 => ?k1) (k2 := fun q1 q0 g2 hW2 hf2 => ?k2) (k0 := fun q1 q2 g2 hW2 hf2 => ?k0)
  case k1 =>
    rw [rs_pull_k1 q0] at h
    exact h 0 g2 hW2 hf2 (fun e => absurd (show nI 1 = 0 from e) (by decide))
  case k2 =>
    rw [rs_pull_k2 q1 q0] at h
    exact h 0 g2 hW2 hf2 (fun e => absurd (show nI 2 = 0 from e) (by decide))
  case k0 =>
    rw [rs_pull_k0 q1 q2] at h
    exact h _ g2 hW2 hf2 (fun _ => rfl)
set_option maxRecDepth 100000 in
set_option maxHeartbeats 4000000 in
theorem c_M_lift {x ld : Int32} (hI : Inv S) (hW : MW M S r g) (h : ∀ (a : Int32) (g2 : HP), MW M (rs_lift S x ld).2.2 (nI (rs_lift S x ld).1) g2 → frM M g g2 → (a = 0 ∧ (nI (rs_lift S x ld).1 = 0 → (rs_lift S x ld).2.1 = 0) ∨ a = 1 ∧ (nI (rs_lift S x ld).1 = 0 → (rs_lift S x ld).2.1 = 1)) → Post (.inl (some (.int a))) g2) : Ct d mX7_lift 2 0 [.ref (M 0), .int x, .int ld] g Post := by
  refine c_X7_lift (hW := hW) (hSl := hI.1.1) (hS := hI.1.2.1) (hb := fun i hi => hI.2.2.1.1.bearE i hi) (hrl := fun q hq => (hI.2.2.2.1 q hq).1) (hp := hI.2.2.2.1.hp) (hpl := hI.2.2.2.1.hpl) (hm := fun r hr hf hb => ⟨(lift_m hI.2.2.2.1 hI.2.2.1.1 hr hf hb).2, hI.2.2.1.1.ld (hI.2.2.2.1 r hr).1 (lift_m hI.2.2.2.1 hI.2.2.1.1 hr hf hb).1 (lift_m hI.2.2.2.1 hI.2.2.1.1 hr hf hb).2⟩) (k1 := fun q0 g2 hW2 hf2 => ?k1) (k2 := fun q1 q0 g2 hW2 hf2 => ?k2) (kn := fun q1 q2 q3 g2 hW2 hf2 => ?kn) (k0 := fun q1 q2 q3 g2 hW2 hf2 => ?k0)
  case k1 =>
    rw [rs_lift_k1 q0] at h
    exact h 0 g2 hW2 hf2 (Or.inl ⟨rfl, fun e => absurd (show nI 1 = 0 from e) (by decide)⟩)
  case k2 =>
    rw [rs_lift_k2 q1 q0] at h
    exact h 0 g2 hW2 hf2 (Or.inl ⟨rfl, fun e => absurd (show nI 2 = 0 from e) (by decide)⟩)
  case kn =>
    rw [rs_lift_kn q1 q2 q3] at h
    dsimp only at h
    exact h _ g2 hW2 hf2 (Or.inl ⟨rfl, fun _ => (show (0 : Int32).toInt64 = (0 : Int64) from by decide)⟩)
  case k0 =>
    rw [rs_lift_k0 q1 q2 q3] at h
    dsimp only at h
    exact h _ g2 hW2 hf2 (Or.inr ⟨rfl, fun _ => (show (1 : Int32).toInt64 = (1 : Int64) from by decide)⟩)
set_option maxRecDepth 100000 in
set_option maxHeartbeats 4000000 in
theorem c_M_series {x y ld : Int32} (hI : Inv S) (hW : MW M S r g) (h : ∀ (a : Int32) (g2 : HP), MW M (rs_series S x y ld).2.2 (nI (rs_series S x y ld).1) g2 → frM M g g2 → (nI (rs_series S x y ld).1 = 0 → a.toInt64 = (rs_series S x y ld).2.1) → Post (.inl (some (.int a))) g2) : Ct d mX7_series 2 0 [.ref (M 0), .int x, .int y, .int ld] g Post := by
  refine c_X7_series (hW := hW) (hSl := hI.1.1) (hS := hI.1.2.1) (hb := fun i hi => hI.2.2.1.1.bearE i hi) (hrl := fun q hq => (hI.2.2.2.1 q hq).1) (hp := hI.2.2.2.1.hp) (hpl := hI.2.2.2.1.hpl) (hpr := hI.2.2.2.1.hpr) (k1 := fun q0 g2 hW2 hf2 => ?k1) (k2 := fun q1 q2 q0 g2 hW2 hf2 => ?k2) (kn := fun q1 q2 q3 q4 q5 g2 hW2 hf2 => ?kn) (k0 := fun q1 q2 q3 q4 q5 q6 g2 hW2 hf2 => ?k0)
  case k1 =>
    rw [rs_series_k1 q0] at h
    exact h 0 g2 hW2 hf2 (fun e => absurd (show nI 1 = 0 from e) (by decide))
  case k2 =>
    rw [rs_series_k2 q1 q2 q0] at h
    exact h 0 g2 hW2 hf2 (fun e => absurd (show nI 2 = 0 from e) (by decide))
  case kn =>
    rw [rs_series_kn q1 q2 q3 q4 q5] at h
    exact h _ g2 hW2 hf2 (fun _ => rfl)
  case k0 =>
    rw [rs_series_k0 q1 q2 q3 q4 q5 q6] at h
    exact h _ g2 hW2 hf2 (fun _ => rfl)
set_option maxRecDepth 100000 in
set_option maxHeartbeats 4000000 in
theorem c_M_holds {w gr ta sh : Int32} (hI : Inv S) (hW : MW M S r g) (h : ∀ (a : Int64) (g2 : HP), MW M (rs_holds S w gr ta sh).2.2 (nI (rs_holds S w gr ta sh).1) g2 → frM M g g2 → (nI (rs_holds S w gr ta sh).1 = 0 → a = (rs_holds S w gr ta sh).2.1) → Post (.inl (some (.long a))) g2) : Ct d mX7_holds 1 0 [.ref (M 0), .int w, .int gr, .int ta, .int sh] g Post := by
  refine c_X7_holds (hW := hW)  (k2 := fun q0 g2 hW2 hf2 => ?k2) (k0 := fun q1 q2 q3 q4 g2 hW2 hf2 => ?k0)
  case k2 =>
    rw [rs_holds_k2 q0] at h
    exact h 0 g2 hW2 hf2 (fun e => absurd (show nI 1 = 0 from e) (by decide))
  case k0 =>
    rw [rs_holds_k0 q1 q2 q3 q4] at h
    exact h _ g2 hW2 hf2 (fun _ => rfl)
set_option maxRecDepth 100000 in
set_option maxHeartbeats 4000000 in
theorem c_M_braid {x : Int32} (hI : Inv S) (hW : MW M S r g) (h : ∀ (a : Int32) (g2 : HP), MW M (rs_braid S x).2.2 (nI (rs_braid S x).1) g2 → frM M g g2 → (nI (rs_braid S x).1 = 0 → a.toInt64 = (rs_braid S x).2.1) → Post (.inl (some (.int a))) g2) : Ct d mX7_braid 1 0 [.ref (M 0), .int x] g Post := by
  refine c_X7_braid (hW := hW) (hcr := by have := hI.2.2.2.2.1.2.2.1; omega) (k2 := fun q0 g2 hW2 hf2 => ?k2) (k0 := fun q1 g2 hW2 hf2 => ?k0)
  case k2 =>
    rw [rs_braid_k2 q0] at h
    exact h 0 g2 hW2 hf2 (fun e => absurd (show nI 1 = 0 from e) (by decide))
  case k0 =>
    rw [rs_braid_k0 q1] at h
    exact h _ g2 hW2 hf2 (fun _ => rfl)
set_option maxRecDepth 100000 in
set_option maxHeartbeats 4000000 in
theorem c_M_cross {x z : Int32} (hI : Inv S) (hW : MW M S r g) (h : ∀ (a : Int32) (g2 : HP), MW M (rs_cross S x z).2.2 (nI (rs_cross S x z).1) g2 → frM M g g2 → (nI (rs_cross S x z).1 = 0 → a.toInt64 = (rs_cross S x z).2.1) → Post (.inl (some (.int a))) g2) : Ct d mX7_cross 1 0 [.ref (M 0), .int x, .int z] g Post := by
  refine c_X7_cross (hW := hW) (hca := ⟨hI.2.2.2.2.1.1, hI.2.2.2.2.1.2.1⟩) (hcr := hI.2.2.2.2.1.2.2.1) (hC := hI.2.2.2.2.1.sg.1) (k1 := fun q0 g2 hW2 hf2 => ?k1) (k3 := fun q1 q0 g2 hW2 hf2 => ?k3) (k0 := fun q1 q2 g2 hW2 hf2 => ?k0)
  case k1 =>
    rw [rs_cross_k1 q0] at h
    exact h 0 g2 hW2 hf2 (fun e => absurd (show nI 1 = 0 from e) (by decide))
  case k3 =>
    rw [rs_cross_k3 q1 q0] at h
    exact h 0 g2 hW2 hf2 (fun e => absurd (show nI 2 = 0 from e) (by decide))
  case k0 =>
    rw [rs_cross_k0 q1 q2] at h
    exact h _ g2 hW2 hf2 (fun _ => rfl)
set_option maxRecDepth 100000 in
set_option maxHeartbeats 4000000 in
theorem c_M_carrier {x : Int32} (hI : Inv S) (hW : MW M S r g) (h : ∀ (a : Int32) (g2 : HP), MW M (rs_carrier S x).2.2 (nI (rs_carrier S x).1) g2 → frM M g g2 → (nI (rs_carrier S x).1 = 0 → a.toInt64 = (rs_carrier S x).2.1) → Post (.inl (some (.int a))) g2) : Ct d mX7_carrier 1 0 [.ref (M 0), .int x] g Post := by
  refine c_X7_carrier (hW := hW) (hca := hI.2.2.2.2.1.2.1) (k1 := fun q0 g2 hW2 hf2 => ?k1) (k0 := fun q1 g2 hW2 hf2 => ?k0)
  case k1 =>
    rw [rs_carrier_k1 q0] at h
    exact h 0 g2 hW2 hf2 (fun e => absurd (show nI 1 = 0 from e) (by decide))
  case k0 =>
    rw [rs_carrier_k0 q1] at h
    exact h _ g2 hW2 hf2 (fun _ => rfl)
set_option maxRecDepth 100000 in
set_option maxHeartbeats 4000000 in
theorem c_M_over {x y : Int32} (hI : Inv S) (hW : MW M S r g) (h : ∀ (a : Int32) (g2 : HP), MW M (rs_over S x y).2.2 (nI (rs_over S x y).1) g2 → frM M g g2 → (nI (rs_over S x y).1 = 0 → a.toInt64 = (rs_over S x y).2.1) → Post (.inl (some (.int a))) g2) : Ct d mX7_over 1 0 [.ref (M 0), .int x, .int y] g Post := by
  refine c_X7_over (hW := hW) (hca := hI.2.2.2.2.1.2.1) (k1 := fun q0 g2 hW2 hf2 => ?k1) (k2 := fun q1 q2 q0 g2 hW2 hf2 => ?k2) (k0 := fun q1 q2 q3 g2 hW2 hf2 => ?k0)
  case k1 =>
    rw [rs_over_k1 q0] at h
    exact h 0 g2 hW2 hf2 (fun e => absurd (show nI 1 = 0 from e) (by decide))
  case k2 =>
    rw [rs_over_k2 q1 q2 q0] at h
    exact h 0 g2 hW2 hf2 (fun e => absurd (show nI 2 = 0 from e) (by decide))
  case k0 =>
    rw [rs_over_k0 q1 q2 q3] at h
    exact h _ g2 hW2 hf2 (fun _ => rfl)
set_option maxRecDepth 100000 in
set_option maxHeartbeats 4000000 in
theorem c_M_net {x y : Int32} (hI : Inv S) (hW : MW M S r g) (h : ∀ (a : Int32) (g2 : HP), MW M (rs_net S x y).2.2 (nI (rs_net S x y).1) g2 → frM M g g2 → (nI (rs_net S x y).1 = 0 → a.toInt64 = (rs_net S x y).2.1) → Post (.inl (some (.int a))) g2) : Ct d mX7_net 1 0 [.ref (M 0), .int x, .int y] g Post := by
  refine c_X7_net (hW := hW) (hS := hI.1.2.2) (k2 := fun q0 g2 hW2 hf2 => ?k2) (k3 := fun q1 q2 q0 g2 hW2 hf2 => ?k3) (k0 := fun q1 q2 q3 g2 hW2 hf2 => ?k0)
  case k2 =>
    rw [rs_net_k2 q0] at h
    exact h 0 g2 hW2 hf2 (fun e => absurd (show nI 1 = 0 from e) (by decide))
  case k3 =>
    rw [rs_net_k3 q1 q2 q0] at h
    exact h 0 g2 hW2 hf2 (fun e => absurd (show nI 2 = 0 from e) (by decide))
  case k0 =>
    rw [rs_net_k0 q1 q2 q3] at h
    exact h _ g2 hW2 hf2 (fun _ => rfl)
set_option maxRecDepth 100000 in
set_option maxHeartbeats 4000000 in
theorem c_M_tear {n x y z : Int32} (hI : Inv S) (hW : MW M S r g) (h : ∀ (a : Int32) (g2 : HP), MW M (rs_tear S n x y z).2.2 (nI (rs_tear S n x y z).1) g2 → frM M g g2 → (nI (rs_tear S n x y z).1 = 0 → a.toInt64 = (rs_tear S n x y z).2.1) → Post (.inl (some (.int a))) g2) : Ct d mX7_tear 2 0 [.ref (M 0), .int n, .int x, .int y, .int z] g Post := by
  refine c_X7_tear (hW := hW) (hS := hI.1.2.2) (hN := fun i hi => ⟨(hI.2.2.2.2.2 i hi).2.1, (hI.2.2.2.2.2 i hi).1, (hI.2.2.2.2.2 i hi).2.2.2⟩) (hcnt := hcnt_all) (k1 := fun q0 g2 hW2 hf2 => ?k1) (k3 := fun q1 q2 q0 g2 hW2 hf2 => ?k3) (k0 := fun q1 q2 q3 g2 hW2 hf2 => ?k0)
  case k1 =>
    rw [rs_tear_k1 q0] at h
    exact h 0 g2 hW2 hf2 (fun e => absurd (show nI 1 = 0 from e) (by decide))
  case k3 =>
    rw [rs_tear_k3 q1 q2 q0] at h
    exact h 0 g2 hW2 hf2 (fun e => absurd (show nI 2 = 0 from e) (by decide))
  case k0 =>
    rw [rs_tear_k0 q1 q2 q3] at h
    exact h _ g2 hW2 hf2 (fun _ => rfl)
set_option maxRecDepth 100000 in
set_option maxHeartbeats 4000000 in
theorem c_M_hole {n p q u v : Int32} (hI : Inv S) (hW : MW M S r g) (h : ∀ (a : Int32) (g2 : HP), MW M (rs_hole S n p q u v).2.2 (nI (rs_hole S n p q u v).1) g2 → frM M g g2 → (nI (rs_hole S n p q u v).1 = 0 → a.toInt64 = (rs_hole S n p q u v).2.1) → Post (.inl (some (.int a))) g2) : Ct d mX7_hole 2 0 [.ref (M 0), .int n, .int p, .int q, .int u, .int v] g Post := by
  refine c_X7_hole (hW := hW) (hS := hI.1.2.2) (hN := fun i hi => ⟨(hI.2.2.2.2.2 i hi).2.1, (hI.2.2.2.2.2 i hi).1, (hI.2.2.2.2.2 i hi).2.2.2⟩) (hcnt := hcnt_all) (k1 := fun q0 g2 hW2 hf2 => ?k1) (k2 := fun q1 q0 g2 hW2 hf2 => ?k2) (k0 := fun q1 q2 q3 q4 q5 g2 hW2 hf2 => ?k0)
  case k1 =>
    rw [rs_hole_k1 q0] at h
    exact h 0 g2 hW2 hf2 (fun e => absurd (show nI 1 = 0 from e) (by decide))
  case k2 =>
    rw [rs_hole_k2 q1 q0] at h
    exact h 0 g2 hW2 hf2 (fun e => absurd (show nI 2 = 0 from e) (by decide))
  case k0 =>
    rw [rs_hole_k0 q1 q2 q3 q4 q5] at h
    exact h _ g2 hW2 hf2 (fun _ => rfl)
set_option maxRecDepth 100000 in
set_option maxHeartbeats 4000000 in
theorem c_M_twines {n : Int32} (hI : Inv S) (hW : MW M S r g) (h : ∀ (a : Int32) (g2 : HP), MW M (rs_twines S n).2.2 (nI (rs_twines S n).1) g2 → frM M g g2 → (nI (rs_twines S n).1 = 0 → a.toInt64 = (rs_twines S n).2.1) → Post (.inl (some (.int a))) g2) : Ct d mX7_twines 3 0 [.ref (M 0), .int n] g Post := by
  refine c_X7_twines (hW := hW) (hS := hI.1.2.2) (k1 := fun q0 g2 hW2 hf2 => ?k1) (k0 := fun q1 lab g2 hO hW2 hf2 => ?k0)
  case k1 =>
    rw [rs_twines_k1 q0] at h
    exact h 0 g2 hW2 hf2 (fun e => absurd (show nI 1 = 0 from e) (by decide))
  case k0 =>
    rw [(twines_eq (isX_ix (by have := hI.1.2.2; omega) q1) hO (fun _ => 0)).2]
    rw [rs_twines_k0 q1] at h
    exact h _ g2 hW2 hf2 (fun _ => rfl)
set_option maxRecDepth 100000 in
set_option maxHeartbeats 4000000 in
theorem c_M_twinesAnew {n : Int32} (hI : Inv S) (hW : MW M S r g) (h : ∀ (a : Int32) (g2 : HP), MW M (rs_twinesAnew S n).2.2 (nI (rs_twinesAnew S n).1) g2 → frM M g g2 → (nI (rs_twinesAnew S n).1 = 0 → a.toInt64 = (rs_twinesAnew S n).2.1) → Post (.inl (some (.int a))) g2) : Ct d mX7_twinesAnew 4 0 [.ref (M 0), .int n] g Post := by
  refine c_X7_twinesAnew (hW := hW) (hS := hI.1.2.2) (k1 := fun q0 g2 hW2 hf2 => ?k1) (k0 := fun q1 lab g2 hO hW2 hf2 => ?k0)
  case k1 =>
    rw [rs_twinesAnew_k1 q0] at h
    exact h 0 g2 hW2 hf2 (fun e => absurd (show nI 1 = 0 from e) (by decide))
  case k0 =>
    rw [(twines_eq (isX_ix (by have := hI.1.2.2; omega) q1) hO (fun _ => 0)).2]
    rw [rs_twinesAnew_k0 q1] at h
    exact h _ g2 hW2 hf2 (fun _ => rfl)
set_option maxRecDepth 100000 in
set_option maxHeartbeats 4000000 in
theorem c_M_mend {n y : Int32} (hI : Inv S) (hW : MW M S r g) (h : ∀ (a : Int32) (g2 : HP), MW M (rs_mend S n y).2.2 (nI (rs_mend S n y).1) g2 → frM M g g2 → (nI (rs_mend S n y).1 = 0 → a.toInt64 = (rs_mend S n y).2.1) → Post (.inl (some (.int a))) g2) : Ct d mX7_mend 3 0 [.ref (M 0), .int n, .int y] g Post := by
  refine c_X7_mend (hW := hW) (hS := hI.1.2.2) (hcnt := hcnt_all) (k1 := fun q0 g2 hW2 hf2 => ?k1) (k2 := fun q1 q0 g2 hW2 hf2 => ?k2) (kn := fun q1 q2 lab hO q3 g2 hW2 hf2 => ?kn) (k0 := fun q1 q2 lab hO q3 g2 hW2 hf2 => ?k0)
  case k1 =>
    rw [rs_mend_k1 q0] at h
    exact h 0 g2 hW2 hf2 (fun e => absurd (show nI 1 = 0 from e) (by decide))
  case k2 =>
    rw [rs_mend_k2 q1 q0] at h
    exact h 0 g2 hW2 hf2 (fun e => absurd (show nI 2 = 0 from e) (by decide))
  case kn =>
    rw [(twines_eq (isX_ix (by have := hI.1.2.2; omega) q1) hO (fun _ => 0)).2] at q3
    rw [rs_mend_kn q1 q2 q3] at h
    exact h _ g2 hW2 hf2 (fun _ => rfl)
  case k0 =>
    rw [(twines_eq (isX_ix (by have := hI.1.2.2; omega) q1) hO (fun _ => 0)).2] at q3
    rw [rs_mend_k0 q1 q2 q3] at h
    exact h _ g2 hW2 hf2 (fun _ => rfl)
set_option maxRecDepth 100000 in
set_option maxHeartbeats 4000000 in
theorem c_M_join {x y z : Int32} (hI : Inv S) (hW : MW M S r g) (h : ∀ (a : Int32) (g2 : HP), MW M (rs_join S x y z).2.2 (nI (rs_join S x y z).1) g2 → frM M g g2 → (nI (rs_join S x y z).1 = 0 → a.toInt64 = (rs_join S x y z).2.1) → Post (.inl (some (.int a))) g2) : Ct d mX7_join 1 0 [.ref (M 0), .int x, .int y, .int z] g Post := by
  refine c_X7_join (hW := hW)  (k2 := fun q0 g2 hW2 hf2 => ?k2) (k0 := fun q1 q2 q3 g2 hW2 hf2 => ?k0)
  case k2 =>
    rw [rs_join_k2 q0] at h
    exact h 0 g2 hW2 hf2 (fun e => absurd (show nI 1 = 0 from e) (by decide))
  case k0 =>
    rw [rs_join_k0 q1 q2 q3] at h
    exact h _ g2 hW2 hf2 (fun _ => rfl)
set_option maxRecDepth 100000 in
set_option maxHeartbeats 4000000 in
theorem c_M_depth {x y z : Int32} (hI : Inv S) (hW : MW M S r g) (h : ∀ (a : Int32) (g2 : HP), MW M (rs_depth S x y z).2.2 (nI (rs_depth S x y z).1) g2 → frM M g g2 → (nI (rs_depth S x y z).1 = 0 → a.toInt64 = (rs_depth S x y z).2.1) → Post (.inl (some (.int a))) g2) : Ct d mX7_depth 1 0 [.ref (M 0), .int x, .int y, .int z] g Post := by
  refine c_X7_depth (hW := hW)  (k2 := fun q0 g2 hW2 hf2 => ?k2) (k0 := fun q1 q2 q3 g2 hW2 hf2 => ?k0)
  case k2 =>
    rw [rs_depth_k2 q0] at h
    exact h 0 g2 hW2 hf2 (fun e => absurd (show nI 1 = 0 from e) (by decide))
  case k0 =>
    rw [rs_depth_k0 q1 q2 q3] at h
    exact h _ g2 hW2 hf2 (fun _ => rfl)
end C98e
