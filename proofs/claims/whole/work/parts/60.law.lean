/-! the law's loop: each call -/
section
variable {L k : Nat} {xs : Nat → Int32} {Z : z_Zt} {S : z_S}
abbrev lwR (L : Nat) (xs : Nat → Int32) (Z : z_Zt) (pc k : Nat) (S : z_S) : Prop := z_Run 601 73 (z_own 9) cL_law 4 (some (L, xs)) Z pc [(0, .inr (some 999999)), (1, z_p 0), (2, z_p 59), (3, .inl (nI k))] [] (z_H S)
theorem lw_in (j : Nat) (hk : k + j < L) (hL : L ≤ 3072) : vp_in (nI k + nI j) L := by
  rw [nI_add]
  exact vp_in_nI hk (by omega)
set_option maxRecDepth 20000 in
theorem lw_letter (hk : k + 6 ≤ L) (hL : L ≤ 3072) (hI : Inv S) (next : ∀ S', Inv S' → lwR L xs Z 1046 k S') : lwR L xs Z 184 k S := by
  refine z_Run_of z_tkL [(1046, [0, 1, 2, 3])] 60 (fun C K R hC hK hR => ?_)
  conv => whnf
  refine And.intro (lw_in 1 (by omega) hL) ?_
  conv => whnf
  refine hC _ _ _ _ (op_letter _ S hI _ (fun a S1 hm => ?_))
  conv => whnf
  refine And.intro (lw_in 1 (by omega) hL) ?_
  conv => whnf
  refine hC _ _ _ _ (hm _ (fun b S2 e hI2 => ?_))
  exact And.intro (fun _ => hK _ _ _ _ (next _ hI2)) (fun q => absurd e.symm q)
set_option maxRecDepth 20000 in
theorem lw_board (hk : k + 6 ≤ L) (hL : L ≤ 3072) (hI : Inv S) (next : ∀ S', Inv S' → lwR L xs Z 1046 k S') : lwR L xs Z 207 k S := by
  refine z_Run_of z_tkL [(1046, [0, 1, 2, 3])] 60 (fun C K R hC hK hR => ?_)
  conv => whnf
  refine hC _ _ _ _ (op_board S hI _ (fun a S1 hm => ?_))
  conv => whnf
  refine hC _ _ _ _ (hm _ (fun b S2 e hI2 => ?_))
  exact And.intro (fun _ => hK _ _ _ _ (next _ hI2)) (fun q => absurd e.symm q)
set_option maxRecDepth 20000 in
theorem lw_child (hk : k + 6 ≤ L) (hL : L ≤ 3072) (hI : Inv S) (next : ∀ S', Inv S' → lwR L xs Z 1046 k S') : lwR L xs Z 220 k S := by
  refine z_Run_of z_tkL [(1046, [0, 1, 2, 3])] 60 (fun C K R hC hK hR => ?_)
  conv => whnf
  refine And.intro (lw_in 1 (by omega) hL) ?_
  conv => whnf
  refine And.intro (lw_in 2 (by omega) hL) ?_
  conv => whnf
  refine hC _ _ _ _ (op_child _ _ S hI _ (fun a S1 hm => ?_))
  conv => whnf
  refine And.intro (lw_in 1 (by omega) hL) ?_
  conv => whnf
  refine And.intro (lw_in 2 (by omega) hL) ?_
  conv => whnf
  refine hC _ _ _ _ (hm _ (fun b S2 e hI2 => ?_))
  exact And.intro (fun _ => hK _ _ _ _ (next _ hI2)) (fun q => absurd e.symm q)
set_option maxRecDepth 20000 in
theorem lw_seat (hk : k + 6 ≤ L) (hL : L ≤ 3072) (hI : Inv S) (next : ∀ S', Inv S' → lwR L xs Z 1046 k S') : lwR L xs Z 253 k S := by
  refine z_Run_of z_tkL [(1046, [0, 1, 2, 3])] 60 (fun C K R hC hK hR => ?_)
  conv => whnf
  refine And.intro (lw_in 1 (by omega) hL) ?_
  conv => whnf
  refine hC _ _ _ _ (op_seat _ S hI _ (fun a S1 hm => ?_))
  conv => whnf
  refine And.intro (lw_in 1 (by omega) hL) ?_
  conv => whnf
  refine hC _ _ _ _ (hm _ (fun b S2 e hI2 => ?_))
  exact And.intro (fun _ => hK _ _ _ _ (next _ hI2)) (fun q => absurd e.symm q)
set_option maxRecDepth 20000 in
theorem lw_sit (hk : k + 6 ≤ L) (hL : L ≤ 3072) (hI : Inv S) (next : ∀ S', Inv S' → lwR L xs Z 1046 k S') : lwR L xs Z 276 k S := by
  refine z_Run_of z_tkL [(1046, [0, 1, 2, 3])] 60 (fun C K R hC hK hR => ?_)
  conv => whnf
  refine And.intro (lw_in 1 (by omega) hL) ?_
  conv => whnf
  refine And.intro (lw_in 2 (by omega) hL) ?_
  conv => whnf
  refine hC _ _ _ _ (op_sit _ _ S hI _ (fun a S1 hm => ?_))
  conv => whnf
  refine And.intro (lw_in 1 (by omega) hL) ?_
  conv => whnf
  refine And.intro (lw_in 2 (by omega) hL) ?_
  conv => whnf
  refine hC _ _ _ _ (hm _ (fun b S2 e hI2 => ?_))
  exact And.intro (fun _ => hK _ _ _ _ (next _ hI2)) (fun q => absurd e.symm q)
set_option maxRecDepth 20000 in
theorem lw_notch (hk : k + 6 ≤ L) (hL : L ≤ 3072) (hI : Inv S) (next : ∀ S', Inv S' → lwR L xs Z 1046 k S') : lwR L xs Z 309 k S := by
  refine z_Run_of z_tkL [(1046, [0, 1, 2, 3])] 60 (fun C K R hC hK hR => ?_)
  conv => whnf
  refine And.intro (lw_in 1 (by omega) hL) ?_
  conv => whnf
  refine hC _ _ _ _ (op_notch _ S hI _ (fun a S1 hm => ?_))
  conv => whnf
  refine And.intro (lw_in 1 (by omega) hL) ?_
  conv => whnf
  refine hC _ _ _ _ (hm _ (fun b S2 e hI2 => ?_))
  exact And.intro (fun _ => hK _ _ _ _ (next _ hI2)) (fun q => absurd e.symm q)
set_option maxRecDepth 20000 in
theorem lw_sum (hk : k + 6 ≤ L) (hL : L ≤ 3072) (hI : Inv S) (next : ∀ S', Inv S' → lwR L xs Z 1046 k S') : lwR L xs Z 332 k S := by
  refine z_Run_of z_tkL [(1046, [0, 1, 2, 3])] 60 (fun C K R hC hK hR => ?_)
  conv => whnf
  refine hC _ _ _ _ (op_sum S hI _ (fun a S1 hm => ?_))
  conv => whnf
  refine hC _ _ _ _ (hm _ (fun b S2 e hI2 => ?_))
  exact And.intro (fun _ => hK _ _ _ _ (next _ hI2)) (fun q => absurd e.symm q)
set_option maxRecDepth 20000 in
theorem lw_down (hk : k + 6 ≤ L) (hL : L ≤ 3072) (hI : Inv S) (next : ∀ S', Inv S' → lwR L xs Z 1046 k S') : lwR L xs Z 345 k S := by
  refine z_Run_of z_tkL [(1046, [0, 1, 2, 3])] 60 (fun C K R hC hK hR => ?_)
  conv => whnf
  refine hC _ _ _ _ (op_down S hI _ (fun a S1 hm => ?_))
  conv => whnf
  refine hC _ _ _ _ (hm _ (fun b S2 e hI2 => ?_))
  exact And.intro (fun _ => hK _ _ _ _ (next _ hI2)) (fun q => absurd e.symm q)
set_option maxRecDepth 20000 in
theorem lw_level (hk : k + 6 ≤ L) (hL : L ≤ 3072) (hI : Inv S) (next : ∀ S', Inv S' → lwR L xs Z 1046 k S') : lwR L xs Z 358 k S := by
  refine z_Run_of z_tkL [(1046, [0, 1, 2, 3])] 60 (fun C K R hC hK hR => ?_)
  conv => whnf
  refine hC _ _ _ _ (op_level S hI _ (fun a S1 hm => ?_))
  conv => whnf
  refine hC _ _ _ _ (hm _ (fun b S2 e hI2 => ?_))
  exact And.intro (fun _ => hK _ _ _ _ (next _ hI2)) (fun q => absurd e.symm q)
set_option maxRecDepth 20000 in
theorem lw_first (hk : k + 6 ≤ L) (hL : L ≤ 3072) (hI : Inv S) (next : ∀ S', Inv S' → lwR L xs Z 1046 k S') : lwR L xs Z 371 k S := by
  refine z_Run_of z_tkL [(1046, [0, 1, 2, 3])] 60 (fun C K R hC hK hR => ?_)
  conv => whnf
  refine And.intro (lw_in 1 (by omega) hL) ?_
  conv => whnf
  refine And.intro (lw_in 2 (by omega) hL) ?_
  conv => whnf
  refine hC _ _ _ _ (op_first _ _ S hI _ (fun a S1 hm => ?_))
  conv => whnf
  refine And.intro (lw_in 1 (by omega) hL) ?_
  conv => whnf
  refine And.intro (lw_in 2 (by omega) hL) ?_
  conv => whnf
  refine hC _ _ _ _ (hm _ (fun b S2 e hI2 => ?_))
  exact And.intro (fun _ => hK _ _ _ _ (next _ hI2)) (fun q => absurd e.symm q)
set_option maxRecDepth 20000 in
theorem lw_off (hk : k + 6 ≤ L) (hL : L ≤ 3072) (hI : Inv S) (next : ∀ S', Inv S' → lwR L xs Z 1046 k S') : lwR L xs Z 404 k S := by
  refine z_Run_of z_tkL [(1046, [0, 1, 2, 3])] 60 (fun C K R hC hK hR => ?_)
  conv => whnf
  refine hC _ _ _ _ (op_off S hI _ (fun a S1 hm => ?_))
  conv => whnf
  refine hC _ _ _ _ (hm _ (fun b S2 e hI2 => ?_))
  exact And.intro (fun _ => hK _ _ _ _ (next _ hI2)) (fun q => absurd e.symm q)
set_option maxRecDepth 20000 in
theorem lw_bucket (hk : k + 6 ≤ L) (hL : L ≤ 3072) (hI : Inv S) (next : ∀ S', Inv S' → lwR L xs Z 1046 k S') : lwR L xs Z 417 k S := by
  refine z_Run_of z_tkL [(1046, [0, 1, 2, 3])] 60 (fun C K R hC hK hR => ?_)
  conv => whnf
  refine And.intro (lw_in 1 (by omega) hL) ?_
  conv => whnf
  refine hC _ _ _ _ (op_bucket _ S hI _ (fun a S1 hm => ?_))
  conv => whnf
  refine And.intro (lw_in 1 (by omega) hL) ?_
  conv => whnf
  refine hC _ _ _ _ (hm _ (fun b S2 e hI2 => ?_))
  exact And.intro (fun _ => hK _ _ _ _ (next _ hI2)) (fun q => absurd e.symm q)
set_option maxRecDepth 20000 in
theorem lw_notchBest (hk : k + 6 ≤ L) (hL : L ≤ 3072) (hI : Inv S) (next : ∀ S', Inv S' → lwR L xs Z 1046 k S') : lwR L xs Z 440 k S := by
  refine z_Run_of z_tkL [(1046, [0, 1, 2, 3])] 60 (fun C K R hC hK hR => ?_)
  conv => whnf
  refine hC _ _ _ _ (op_notchBest S hI _ (fun a S1 hm => ?_))
  conv => whnf
  refine hC _ _ _ _ (hm _ (fun b S2 e hI2 => ?_))
  exact And.intro (fun _ => hK _ _ _ _ (next _ hI2)) (fun q => absurd e.symm q)
set_option maxRecDepth 20000 in
theorem lw_orders (hk : k + 6 ≤ L) (hL : L ≤ 3072) (hI : Inv S) (next : ∀ S', Inv S' → lwR L xs Z 1046 k S') : lwR L xs Z 453 k S := by
  refine z_Run_of z_tkL [(1046, [0, 1, 2, 3])] 60 (fun C K R hC hK hR => ?_)
  conv => whnf
  refine And.intro (lw_in 1 (by omega) hL) ?_
  conv => whnf
  refine hC _ _ _ _ (op_orders _ S hI _ (fun a S1 hm => ?_))
  conv => whnf
  refine And.intro (lw_in 1 (by omega) hL) ?_
  conv => whnf
  refine hC _ _ _ _ (hm _ (fun b S2 e hI2 => ?_))
  exact And.intro (fun _ => hK _ _ _ _ (next _ hI2)) (fun q => absurd e.symm q)
set_option maxRecDepth 20000 in
theorem lw_order (hk : k + 6 ≤ L) (hL : L ≤ 3072) (hI : Inv S) (next : ∀ S', Inv S' → lwR L xs Z 1046 k S') : lwR L xs Z 476 k S := by
  refine z_Run_of z_tkL [(1046, [0, 1, 2, 3])] 60 (fun C K R hC hK hR => ?_)
  conv => whnf
  refine And.intro (lw_in 1 (by omega) hL) ?_
  conv => whnf
  refine And.intro (lw_in 2 (by omega) hL) ?_
  conv => whnf
  refine hC _ _ _ _ (op_order _ _ S hI _ (fun a S1 hm => ?_))
  conv => whnf
  refine And.intro (lw_in 1 (by omega) hL) ?_
  conv => whnf
  refine And.intro (lw_in 2 (by omega) hL) ?_
  conv => whnf
  refine hC _ _ _ _ (hm _ (fun b S2 e hI2 => ?_))
  exact And.intro (fun _ => hK _ _ _ _ (next _ hI2)) (fun q => absurd e.symm q)
set_option maxRecDepth 20000 in
theorem lw_leastBang (hk : k + 6 ≤ L) (hL : L ≤ 3072) (hI : Inv S) (next : ∀ S', Inv S' → lwR L xs Z 1046 k S') : lwR L xs Z 509 k S := by
  refine z_Run_of z_tkL [(1046, [0, 1, 2, 3])] 60 (fun C K R hC hK hR => ?_)
  conv => whnf
  refine hC _ _ _ _ (op_leastBang S hI _ (fun a S1 hm => ?_))
  conv => whnf
  refine hC _ _ _ _ (hm _ (fun b S2 e hI2 => ?_))
  exact And.intro (fun _ => hK _ _ _ _ (next _ hI2)) (fun q => absurd e.symm q)
set_option maxRecDepth 20000 in
theorem lw_go (hk : k + 6 ≤ L) (hL : L ≤ 3072) (hI : Inv S) (next : ∀ S', Inv S' → lwR L xs Z 1046 k S') : lwR L xs Z 522 k S := by
  refine z_Run_of z_tkL [(1046, [0, 1, 2, 3])] 60 (fun C K R hC hK hR => ?_)
  conv => whnf
  refine And.intro (lw_in 1 (by omega) hL) ?_
  conv => whnf
  refine And.intro (lw_in 2 (by omega) hL) ?_
  conv => whnf
  refine And.intro (lw_in 3 (by omega) hL) ?_
  conv => whnf
  refine And.intro (lw_in 4 (by omega) hL) ?_
  conv => whnf
  refine hC _ _ _ _ (op_go _ _ _ _ S hI _ (fun a S1 hm => ?_))
  conv => whnf
  refine And.intro (lw_in 1 (by omega) hL) ?_
  conv => whnf
  refine And.intro (lw_in 2 (by omega) hL) ?_
  conv => whnf
  refine And.intro (lw_in 3 (by omega) hL) ?_
  conv => whnf
  refine And.intro (lw_in 4 (by omega) hL) ?_
  conv => whnf
  refine hC _ _ _ _ (hm _ (fun b S2 e hI2 => ?_))
  exact And.intro (fun _ => hK _ _ _ _ (next _ hI2)) (fun q => absurd e.symm q)
set_option maxRecDepth 20000 in
theorem lw_fitting (hk : k + 6 ≤ L) (hL : L ≤ 3072) (hI : Inv S) (next : ∀ S', Inv S' → lwR L xs Z 1046 k S') : lwR L xs Z 575 k S := by
  refine z_Run_of z_tkL [(1046, [0, 1, 2, 3])] 60 (fun C K R hC hK hR => ?_)
  conv => whnf
  refine And.intro (lw_in 1 (by omega) hL) ?_
  conv => whnf
  refine hC _ _ _ _ (op_fitting _ S hI _ (fun a S1 hm => ?_))
  conv => whnf
  refine And.intro (lw_in 1 (by omega) hL) ?_
  conv => whnf
  refine hC _ _ _ _ (hm _ (fun b S2 e hI2 => ?_))
  exact And.intro (fun _ => hK _ _ _ _ (next _ hI2)) (fun q => absurd e.symm q)
set_option maxRecDepth 20000 in
theorem lw_next (hk : k + 6 ≤ L) (hL : L ≤ 3072) (hI : Inv S) (next : ∀ S', Inv S' → lwR L xs Z 1046 k S') : lwR L xs Z 598 k S := by
  refine z_Run_of z_tkL [(1046, [0, 1, 2, 3])] 60 (fun C K R hC hK hR => ?_)
  conv => whnf
  refine And.intro (lw_in 1 (by omega) hL) ?_
  conv => whnf
  refine And.intro (lw_in 2 (by omega) hL) ?_
  conv => whnf
  refine hC _ _ _ _ (op_next _ _ S hI _ (fun a S1 hm => ?_))
  conv => whnf
  refine And.intro (lw_in 1 (by omega) hL) ?_
  conv => whnf
  refine And.intro (lw_in 2 (by omega) hL) ?_
  conv => whnf
  refine hC _ _ _ _ (hm _ (fun b S2 e hI2 => ?_))
  exact And.intro (fun _ => hK _ _ _ _ (next _ hI2)) (fun q => absurd e.symm q)
set_option maxRecDepth 20000 in
theorem lw_inertia (hk : k + 6 ≤ L) (hL : L ≤ 3072) (hI : Inv S) (next : ∀ S', Inv S' → lwR L xs Z 1046 k S') : lwR L xs Z 631 k S := by
  refine z_Run_of z_tkL [(1046, [0, 1, 2, 3])] 60 (fun C K R hC hK hR => ?_)
  conv => whnf
  refine hC _ _ _ _ (op_inertia S hI _ (fun a S1 hm => ?_))
  conv => whnf
  refine hC _ _ _ _ (hm _ (fun b S2 e hI2 => ?_))
  exact And.intro (fun _ => hK _ _ _ _ (next _ hI2)) (fun q => absurd e.symm q)
set_option maxRecDepth 20000 in
theorem lw_comesDown (hk : k + 6 ≤ L) (hL : L ≤ 3072) (hI : Inv S) (next : ∀ S', Inv S' → lwR L xs Z 1046 k S') : lwR L xs Z 644 k S := by
  refine z_Run_of z_tkL [(1046, [0, 1, 2, 3])] 60 (fun C K R hC hK hR => ?_)
  conv => whnf
  refine And.intro (lw_in 1 (by omega) hL) ?_
  conv => whnf
  refine hC _ _ _ _ (op_comesDown _ S hI _ (fun a S1 hm => ?_))
  conv => whnf
  refine And.intro (lw_in 1 (by omega) hL) ?_
  conv => whnf
  refine hC _ _ _ _ (hm _ (fun b S2 e hI2 => ?_))
  exact And.intro (fun _ => hK _ _ _ _ (next _ hI2)) (fun q => absurd e.symm q)
set_option maxRecDepth 20000 in
theorem lw_up (hk : k + 6 ≤ L) (hL : L ≤ 3072) (hI : Inv S) (next : ∀ S', Inv S' → lwR L xs Z 1046 k S') : lwR L xs Z 667 k S := by
  refine z_Run_of z_tkL [(1046, [0, 1, 2, 3])] 60 (fun C K R hC hK hR => ?_)
  conv => whnf
  refine And.intro (lw_in 1 (by omega) hL) ?_
  conv => whnf
  refine hC _ _ _ _ (op_up _ S hI _ (fun a S1 hm => ?_))
  conv => whnf
  refine And.intro (lw_in 1 (by omega) hL) ?_
  conv => whnf
  refine hC _ _ _ _ (hm _ (fun b S2 e hI2 => ?_))
  exact And.intro (fun _ => hK _ _ _ _ (next _ hI2)) (fun q => absurd e.symm q)
set_option maxRecDepth 20000 in
theorem lw_thrown (hk : k + 6 ≤ L) (hL : L ≤ 3072) (hI : Inv S) (next : ∀ S', Inv S' → lwR L xs Z 1046 k S') : lwR L xs Z 690 k S := by
  refine z_Run_of z_tkL [(1046, [0, 1, 2, 3])] 60 (fun C K R hC hK hR => ?_)
  conv => whnf
  refine And.intro (lw_in 1 (by omega) hL) ?_
  conv => whnf
  refine And.intro (lw_in 2 (by omega) hL) ?_
  conv => whnf
  refine And.intro (lw_in 3 (by omega) hL) ?_
  conv => whnf
  refine And.intro (lw_in 4 (by omega) hL) ?_
  conv => whnf
  refine And.intro (lw_in 5 (by omega) hL) ?_
  conv => whnf
  refine hC _ _ _ _ (op_thrown _ _ _ _ _ S hI _ (fun a S1 hm => ?_))
  conv => whnf
  refine And.intro (lw_in 1 (by omega) hL) ?_
  conv => whnf
  refine And.intro (lw_in 2 (by omega) hL) ?_
  conv => whnf
  refine And.intro (lw_in 3 (by omega) hL) ?_
  conv => whnf
  refine And.intro (lw_in 4 (by omega) hL) ?_
  conv => whnf
  refine And.intro (lw_in 5 (by omega) hL) ?_
  conv => whnf
  refine hC _ _ _ _ (hm _ (fun b S2 e hI2 => ?_))
  exact And.intro (fun _ => hK _ _ _ _ (next _ hI2)) (fun q => absurd e.symm q)
set_option maxRecDepth 20000 in
theorem lw_highest (hk : k + 6 ≤ L) (hL : L ≤ 3072) (hI : Inv S) (next : ∀ S', Inv S' → lwR L xs Z 1046 k S') : lwR L xs Z 753 k S := by
  refine z_Run_of z_tkL [(1046, [0, 1, 2, 3])] 60 (fun C K R hC hK hR => ?_)
  conv => whnf
  refine And.intro (lw_in 1 (by omega) hL) ?_
  conv => whnf
  refine hC _ _ _ _ (op_highest _ S hI _ (fun a S1 hm => ?_))
  conv => whnf
  refine And.intro (lw_in 1 (by omega) hL) ?_
  conv => whnf
  refine hC _ _ _ _ (hm _ (fun b S2 e hI2 => ?_))
  exact And.intro (fun _ => hK _ _ _ _ (next _ hI2)) (fun q => absurd e.symm q)
set_option maxRecDepth 20000 in
theorem lw_guess (hk : k + 6 ≤ L) (hL : L ≤ 3072) (hI : Inv S) (next : ∀ S', Inv S' → lwR L xs Z 1046 k S') : lwR L xs Z 776 k S := by
  refine z_Run_of z_tkL [(1046, [0, 1, 2, 3])] 60 (fun C K R hC hK hR => ?_)
  conv => whnf
  refine And.intro (lw_in 1 (by omega) hL) ?_
  conv => whnf
  refine And.intro (lw_in 2 (by omega) hL) ?_
  conv => whnf
  refine And.intro (lw_in 3 (by omega) hL) ?_
  conv => whnf
  refine hC _ _ _ _ (op_guess _ _ _ S hI _ (fun a S1 hm => ?_))
  conv => whnf
  refine And.intro (lw_in 1 (by omega) hL) ?_
  conv => whnf
  refine And.intro (lw_in 2 (by omega) hL) ?_
  conv => whnf
  refine And.intro (lw_in 3 (by omega) hL) ?_
  conv => whnf
  refine hC _ _ _ _ (hm _ (fun b S2 e hI2 => ?_))
  exact And.intro (fun _ => hK _ _ _ _ (next _ hI2)) (fun q => absurd e.symm q)
set_option maxRecDepth 20000 in
theorem lw_parting (hk : k + 6 ≤ L) (hL : L ≤ 3072) (hI : Inv S) (next : ∀ S', Inv S' → lwR L xs Z 1046 k S') : lwR L xs Z 819 k S := by
  refine z_Run_of z_tkL [(1046, [0, 1, 2, 3])] 60 (fun C K R hC hK hR => ?_)
  conv => whnf
  refine And.intro (lw_in 1 (by omega) hL) ?_
  conv => whnf
  refine And.intro (lw_in 2 (by omega) hL) ?_
  conv => whnf
  refine And.intro (lw_in 3 (by omega) hL) ?_
  conv => whnf
  refine hC _ _ _ _ (op_parting _ _ _ S hI _ (fun a S1 hm => ?_))
  conv => whnf
  refine And.intro (lw_in 1 (by omega) hL) ?_
  conv => whnf
  refine And.intro (lw_in 2 (by omega) hL) ?_
  conv => whnf
  refine And.intro (lw_in 3 (by omega) hL) ?_
  conv => whnf
  refine hC _ _ _ _ (hm _ (fun b S2 e hI2 => ?_))
  exact And.intro (fun _ => hK _ _ _ _ (next _ hI2)) (fun q => absurd e.symm q)
set_option maxRecDepth 20000 in
theorem lw_guessed (hk : k + 6 ≤ L) (hL : L ≤ 3072) (hI : Inv S) (next : ∀ S', Inv S' → lwR L xs Z 1046 k S') : lwR L xs Z 862 k S := by
  refine z_Run_of z_tkL [(1046, [0, 1, 2, 3])] 60 (fun C K R hC hK hR => ?_)
  conv => whnf
  refine And.intro (lw_in 1 (by omega) hL) ?_
  conv => whnf
  refine And.intro (lw_in 2 (by omega) hL) ?_
  conv => whnf
  refine And.intro (lw_in 3 (by omega) hL) ?_
  conv => whnf
  refine hC _ _ _ _ (op_guessed _ _ _ S hI _ (fun a S1 hm => ?_))
  conv => whnf
  refine And.intro (lw_in 1 (by omega) hL) ?_
  conv => whnf
  refine And.intro (lw_in 2 (by omega) hL) ?_
  conv => whnf
  refine And.intro (lw_in 3 (by omega) hL) ?_
  conv => whnf
  refine hC _ _ _ _ (hm _ (fun b S2 e hI2 => ?_))
  exact And.intro (fun _ => hK _ _ _ _ (next _ hI2)) (fun q => absurd e.symm q)
set_option maxRecDepth 20000 in
theorem lw_rules (hk : k + 6 ≤ L) (hL : L ≤ 3072) (hI : Inv S) (next : ∀ S', Inv S' → lwR L xs Z 1046 k S') : lwR L xs Z 905 k S := by
  refine z_Run_of z_tkL [(1046, [0, 1, 2, 3])] 60 (fun C K R hC hK hR => ?_)
  conv => whnf
  refine hC _ _ _ _ (op_rules S hI _ (fun a S1 hm => ?_))
  conv => whnf
  refine hC _ _ _ _ (hm _ (fun b S2 e hI2 => ?_))
  exact And.intro (fun _ => hK _ _ _ _ (next _ hI2)) (fun q => absurd e.symm q)
set_option maxRecDepth 20000 in
theorem lw_seeds (hk : k + 6 ≤ L) (hL : L ≤ 3072) (hI : Inv S) (next : ∀ S', Inv S' → lwR L xs Z 1046 k S') : lwR L xs Z 918 k S := by
  refine z_Run_of z_tkL [(1046, [0, 1, 2, 3])] 60 (fun C K R hC hK hR => ?_)
  conv => whnf
  refine And.intro (lw_in 1 (by omega) hL) ?_
  conv => whnf
  refine And.intro (lw_in 2 (by omega) hL) ?_
  conv => whnf
  refine And.intro (lw_in 3 (by omega) hL) ?_
  conv => whnf
  refine hC _ _ _ _ (op_seeds _ _ _ S hI _ (fun a S1 hm => ?_))
  conv => whnf
  refine And.intro (lw_in 1 (by omega) hL) ?_
  conv => whnf
  refine And.intro (lw_in 2 (by omega) hL) ?_
  conv => whnf
  refine And.intro (lw_in 3 (by omega) hL) ?_
  conv => whnf
  refine hC _ _ _ _ (hm _ (fun b S2 e hI2 => ?_))
  exact And.intro (fun _ => hK _ _ _ _ (next _ hI2)) (fun q => absurd e.symm q)
set_option maxRecDepth 20000 in
theorem lw_row (hk : k + 6 ≤ L) (hL : L ≤ 3072) (hI : Inv S) (next : ∀ S', Inv S' → lwR L xs Z 1046 k S') : lwR L xs Z 961 k S := by
  refine z_Run_of z_tkL [(1046, [0, 1, 2, 3])] 60 (fun C K R hC hK hR => ?_)
  conv => whnf
  refine And.intro (lw_in 1 (by omega) hL) ?_
  conv => whnf
  refine hC _ _ _ _ (op_row _ S hI _ (fun a S1 hm => ?_))
  conv => whnf
  refine And.intro (lw_in 1 (by omega) hL) ?_
  conv => whnf
  refine hC _ _ _ _ (hm _ (fun b S2 e hI2 => ?_))
  exact And.intro (fun _ => hK _ _ _ _ (next _ hI2)) (fun q => absurd e.symm q)
set_option maxRecDepth 20000 in
theorem lw_judge (hk : k + 6 ≤ L) (hL : L ≤ 3072) (hI : Inv S) (next : ∀ S', Inv S' → lwR L xs Z 1046 k S') : lwR L xs Z 984 k S := by
  refine z_Run_of z_tkL [(1046, [0, 1, 2, 3])] 60 (fun C K R hC hK hR => ?_)
  conv => whnf
  refine hC _ _ _ _ (op_judge S hI _ (fun a S1 hm => ?_))
  conv => whnf
  refine hC _ _ _ _ (hm _ (fun b S2 e hI2 => ?_))
  exact And.intro (fun _ => hK _ _ _ _ (next _ hI2)) (fun q => absurd e.symm q)
set_option maxRecDepth 20000 in
theorem lw_image (hk : k + 6 ≤ L) (hL : L ≤ 3072) (hI : Inv S) (next : ∀ S', Inv S' → lwR L xs Z 1046 k S') : lwR L xs Z 997 k S := by
  refine z_Run_of z_tkL [(1046, [0, 1, 2, 3])] 60 (fun C K R hC hK hR => ?_)
  conv => whnf
  refine hC _ _ _ _ (op_image S hI _ (fun a S1 hm => ?_))
  conv => whnf
  refine hC _ _ _ _ (hm _ (fun b S2 e hI2 => ?_))
  exact And.intro (fun _ => hK _ _ _ _ (next _ hI2)) (fun q => absurd e.symm q)
set_option maxRecDepth 20000 in
theorem lw_on (hk : k + 6 ≤ L) (hL : L ≤ 3072) (hI : Inv S) (next : ∀ S', Inv S' → lwR L xs Z 1046 k S') : lwR L xs Z 1010 k S := by
  refine z_Run_of z_tkL [(1046, [0, 1, 2, 3])] 60 (fun C K R hC hK hR => ?_)
  conv => whnf
  refine hC _ _ _ _ (op_on S hI _ (fun a S1 hm => ?_))
  conv => whnf
  refine hC _ _ _ _ (hm _ (fun b S2 e hI2 => ?_))
  exact And.intro (fun _ => hK _ _ _ _ (next _ hI2)) (fun q => absurd e.symm q)
set_option maxRecDepth 20000 in
theorem lw_count (hk : k + 6 ≤ L) (hL : L ≤ 3072) (hI : Inv S) (next : ∀ S', Inv S' → lwR L xs Z 1046 k S') : lwR L xs Z 1023 k S := by
  refine z_Run_of z_tkL [(1046, [0, 1, 2, 3])] 60 (fun C K R hC hK hR => ?_)
  conv => whnf
  refine And.intro (lw_in 1 (by omega) hL) ?_
  conv => whnf
  refine hC _ _ _ _ (op_count _ S hI _ (fun a S1 hm => ?_))
  conv => whnf
  refine And.intro (lw_in 1 (by omega) hL) ?_
  conv => whnf
  refine hC _ _ _ _ (hm _ (fun b S2 e hI2 => ?_))
  exact And.intro (fun _ => hK _ _ _ _ (next _ hI2)) (fun q => absurd e.symm q)
theorem m6 (hL : L ≤ 3072) (hk : k ≤ 6000) : ((nI L - 6 : Int32) < nI k ↔ L < k + 6) := by
  obtain ⟨e1, e2⟩ : (nI L - 6 : Int32).toInt = (L : Int) - 6 ∧ (nI k).toInt = (k : Int) := by
    have h1 : (nI L).toInt = (L : Int) := nI_toInt (by omega)
    have h2 : (nI k).toInt = (k : Int) := nI_toInt (by omega)
    refine ⟨?_, h2⟩
    rw [Int32.toInt_sub, h1]
    show Int.bmod ((L : Int) - 6) (2 ^ 32) = _
    rw [Int.bmod_def]
    split <;> omega
  rw [Int32.lt_iff_toInt_lt, e1, e2]
  omega
set_option maxRecDepth 20000 in
theorem lw_back (hI : Inv S) (next : lwR L xs Z 18 (k + 6) S) : lwR L xs Z 1046 k S := by
  refine z_Run_of z_tkL [(18, [0, 1, 2, 3])] 60 (fun C K R hC hK hR => ?_)
  have e : (nI (k + 6) : Int32) = nI k + 6 := (nI_add k 6).symm
  unfold lwR at next
  rw [e] at next
  exact hK _ _ _ _ next
set_option maxRecDepth 20000 in
theorem lw_end (hk : L < k + 6) (hk2 : k ≤ 6000) (hL : L ≤ 3072) (hZ : ∀ S, Z (some (.inl 1)) (z_H S)) : lwR L xs Z 18 k S := by
  refine z_Run_of z_tkL [] 60 (fun C K R hC hK hR => ?_)
  have e : (nI L - 6 : Int32) < nI k := (m6 hL hk2).mpr hk
  refine And.intro (fun _ => hR _ _ (hZ S)) (fun q => absurd e q)
set_option maxRecDepth 20000 in
theorem lw_step (hk : k + 6 ≤ L) (hL : L ≤ 3072) (hI : Inv S) (next : ∀ S', Inv S' → lwR L xs Z 18 (k + 6) S') : lwR L xs Z 18 k S := by
  have next : ∀ S', Inv S' → lwR L xs Z 1046 k S' := fun S' hI' => lw_back hI' (next S' hI')
  refine z_Run_of z_tkL [(184, [0, 1, 2, 3]), (207, [0, 1, 2, 3]), (220, [0, 1, 2, 3]), (253, [0, 1, 2, 3]), (276, [0, 1, 2, 3]), (309, [0, 1, 2, 3]), (332, [0, 1, 2, 3]), (345, [0, 1, 2, 3]), (358, [0, 1, 2, 3]), (371, [0, 1, 2, 3]), (404, [0, 1, 2, 3]), (417, [0, 1, 2, 3]), (440, [0, 1, 2, 3]), (453, [0, 1, 2, 3]), (476, [0, 1, 2, 3]), (509, [0, 1, 2, 3]), (522, [0, 1, 2, 3]), (575, [0, 1, 2, 3]), (598, [0, 1, 2, 3]), (631, [0, 1, 2, 3]), (644, [0, 1, 2, 3]), (667, [0, 1, 2, 3]), (690, [0, 1, 2, 3]), (753, [0, 1, 2, 3]), (776, [0, 1, 2, 3]), (819, [0, 1, 2, 3]), (862, [0, 1, 2, 3]), (905, [0, 1, 2, 3]), (918, [0, 1, 2, 3]), (961, [0, 1, 2, 3]), (984, [0, 1, 2, 3]), (997, [0, 1, 2, 3]), (1010, [0, 1, 2, 3]), (1023, [0, 1, 2, 3]), (1046, [0, 1, 2, 3])] 60 (fun C K R hC hK hR => ?_)
  refine And.intro (fun q => absurd ((m6 hL (by omega)).mp q) (by omega)) (fun _ => ?_)
  conv => whnf
  refine And.intro (vp_in_nI (by omega) (by omega)) ?_
  refine And.intro (fun _ => hK _ _ _ _ (lw_letter hk hL hI next)) (fun _ => ?_)
  refine And.intro (fun _ => hK _ _ _ _ (lw_board hk hL hI next)) (fun _ => ?_)
  refine And.intro (fun _ => hK _ _ _ _ (lw_child hk hL hI next)) (fun _ => ?_)
  refine And.intro (fun _ => hK _ _ _ _ (lw_seat hk hL hI next)) (fun _ => ?_)
  refine And.intro (fun _ => hK _ _ _ _ (lw_sit hk hL hI next)) (fun _ => ?_)
  refine And.intro (fun _ => hK _ _ _ _ (lw_notch hk hL hI next)) (fun _ => ?_)
  refine And.intro (fun _ => hK _ _ _ _ (lw_sum hk hL hI next)) (fun _ => ?_)
  refine And.intro (fun _ => hK _ _ _ _ (lw_down hk hL hI next)) (fun _ => ?_)
  refine And.intro (fun _ => hK _ _ _ _ (lw_level hk hL hI next)) (fun _ => ?_)
  refine And.intro (fun _ => hK _ _ _ _ (lw_first hk hL hI next)) (fun _ => ?_)
  refine And.intro (fun _ => hK _ _ _ _ (lw_off hk hL hI next)) (fun _ => ?_)
  refine And.intro (fun _ => hK _ _ _ _ (lw_bucket hk hL hI next)) (fun _ => ?_)
  refine And.intro (fun _ => hK _ _ _ _ (lw_notchBest hk hL hI next)) (fun _ => ?_)
  refine And.intro (fun _ => hK _ _ _ _ (lw_orders hk hL hI next)) (fun _ => ?_)
  refine And.intro (fun _ => hK _ _ _ _ (lw_order hk hL hI next)) (fun _ => ?_)
  refine And.intro (fun _ => hK _ _ _ _ (lw_leastBang hk hL hI next)) (fun _ => ?_)
  refine And.intro (fun _ => hK _ _ _ _ (lw_go hk hL hI next)) (fun _ => ?_)
  refine And.intro (fun _ => hK _ _ _ _ (lw_fitting hk hL hI next)) (fun _ => ?_)
  refine And.intro (fun _ => hK _ _ _ _ (lw_next hk hL hI next)) (fun _ => ?_)
  refine And.intro (fun _ => hK _ _ _ _ (lw_inertia hk hL hI next)) (fun _ => ?_)
  refine And.intro (fun _ => hK _ _ _ _ (lw_comesDown hk hL hI next)) (fun _ => ?_)
  refine And.intro (fun _ => hK _ _ _ _ (lw_up hk hL hI next)) (fun _ => ?_)
  refine And.intro (fun _ => hK _ _ _ _ (lw_thrown hk hL hI next)) (fun _ => ?_)
  refine And.intro (fun _ => hK _ _ _ _ (lw_highest hk hL hI next)) (fun _ => ?_)
  refine And.intro (fun _ => hK _ _ _ _ (lw_guess hk hL hI next)) (fun _ => ?_)
  refine And.intro (fun _ => hK _ _ _ _ (lw_parting hk hL hI next)) (fun _ => ?_)
  refine And.intro (fun _ => hK _ _ _ _ (lw_guessed hk hL hI next)) (fun _ => ?_)
  refine And.intro (fun _ => hK _ _ _ _ (lw_rules hk hL hI next)) (fun _ => ?_)
  refine And.intro (fun _ => hK _ _ _ _ (lw_seeds hk hL hI next)) (fun _ => ?_)
  refine And.intro (fun _ => hK _ _ _ _ (lw_row hk hL hI next)) (fun _ => ?_)
  refine And.intro (fun _ => hK _ _ _ _ (lw_judge hk hL hI next)) (fun _ => ?_)
  refine And.intro (fun _ => hK _ _ _ _ (lw_image hk hL hI next)) (fun _ => ?_)
  refine And.intro (fun _ => hK _ _ _ _ (lw_on hk hL hI next)) (fun _ => ?_)
  refine And.intro (fun _ => hK _ _ _ _ (lw_count hk hL hI next)) (fun _ => ?_)
  exact hK _ _ _ _ (next S hI)
set_option maxRecDepth 20000 in
theorem lw_loop (hL : L ≤ 3072) (hZ : ∀ S, Z (some (.inl 1)) (z_H S)) : ∀ m k (S : z_S), L < k + 6 * m → k ≤ L + 6 → Inv S → lwR L xs Z 18 k S := by
  intro m
  induction m with
  | zero => 
    intro k S hk hb hI
    exact lw_end (by omega) (by omega) hL hZ
  | succ m ih =>
    intro k S hk hb hI
    by_cases q : k + 6 ≤ L
    · exact lw_step q hL hI (fun S' hI' => ih (k + 6) S' (by omega) (by omega) hI')
    · exact lw_end (by omega) (by omega) hL hZ
end
