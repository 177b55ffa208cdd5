/-! THE BOARD of the class: sums -/
theorem arm_in {notch x : Int32} (h1 : 0 ≤ notch) (h2 : notch ≤ 4) (h3 : -6 ≤ x) (h4 : x ≤ 6) : -20 ≤ armF notch x ∧ armF notch x ≤ 20 := by
  unfold armF
  constructor <;> grind
theorem l_B0_sitters {d n : Nat} {S : z_S} {Z : z_Zt} (hc : S.1 3 = nI n) (hn : n ≤ 5) (hz : Z (some (.inl (cntF (S.2 8) n))) (z_H S)) : ∀ m k, k + m = n → z_Run (d + 3) 73 (z_own 0) z_m6.2.1 z_m6.2.2.1 none (fun v h' => z_nar z_m6.2.2.2.1 v ∧ Z v h') 4 [(0, z_p 4), (1, .inl (cntF (S.2 8) k)), (2, .inl (nI k))] [] (z_H S) := by
  intro m
  induction m with
  | zero =>
    intro k hk
    have hk : k = n := by omega
    subst hk
    refine z_Run_of z_tk6 [] 60 (fun C K R hC hK hR => ?_)
    refine And.intro (fun q => ?_) (fun q => absurd (by rw [hc]; grind) q)
    exact hR _ _ ⟨⟨_, rfl, rfl⟩, hz⟩
  | succ m ih =>
    intro k hk
    have hlt : nI k < nI n := nI_lt (by omega) (by omega)
    have next := ih (k + 1) (by omega)
    rw [nI_succ] at next
    refine z_Run_of z_tk6 [(4, [0, 1, 2])] 60 (fun C K R hC hK hR => ?_)
    refine And.intro (fun q => absurd q (by rw [hc]; grind)) (fun q => ?_)
    conv => whnf
    refine hC _ _ _ _ (s_B0_sitsN hc hn (by omega) (fun r hr => ?_))
    refine And.intro (fun e => ?_) (fun e => ?_)
    · have h0 : S.2 8 k = 0 := by grind
      rw [cntF, if_pos h0] at next
      refine hK _ _ _ _ ?_
      have e0 : cntF (S.2 8) k + 0 = cntF (S.2 8) k := by grind
      rw [← e0] at next
      exact next
    · have h0 : ¬ S.2 8 k = 0 := by grind
      rw [cntF, if_neg h0] at next
      exact hK _ _ _ _ next
theorem s_B0_sitters {d n : Nat} {S : z_S} {Z : z_Zt} (hc : S.1 3 = nI n) (hn : n ≤ 5) (hz : Z (some (.inl (cntF (S.2 8) n))) (z_H S)) : z_EvM (d + 3) 73 6 [z_p 4] (z_H S) Z := by
  refine z_go (c := 0) (t := z_t6) rfl rfl rfl z_tk6 [(4, [0, 1, 2])] 60 (fun C K R hC hK hR => ?_)
  exact hK _ _ _ _ (l_B0_sitters hc hn hz n 0 (by omega))
theorem l_B0_turnedBy {d n : Nat} {S : z_S} {Z : z_Zt} {v : Int32} (hc : S.1 3 = nI n) (hn : n ≤ 5) (hf : z_fe n (S.2 8)) (hv : 0 ≤ v ∧ v ≤ 4) (hz : Z (some (.inl (sumF (S.1 1) v (S.2 5) (S.2 6) (S.2 8) n))) (z_H S)) : ∀ m k, k + m = n → z_Run (d + 4) 73 (z_own 0) z_m12.2.1 z_m12.2.2.1 none (fun v h' => z_nar z_m12.2.2.2.1 v ∧ Z v h') 8 [(0, z_p 4), (1, .inl v), (2, .inl (sumF (S.1 1) v (S.2 5) (S.2 6) (S.2 8) k)), (3, .inl (nI k))] [] (z_H S) := by
  intro m
  induction m with
  | zero =>
    intro k hk
    have hk : k = n := by omega
    subst hk
    refine z_Run_of z_tk12 [] 60 (fun C K R hC hK hR => ?_)
    refine And.intro (fun q => ?_) (fun q => absurd (by rw [hc]; grind) q)
    exact hR _ _ ⟨⟨_, rfl, rfl⟩, hz⟩
  | succ m ih =>
    intro k hk
    have hlt : nI k < nI n := nI_lt (by omega) (by omega)
    have hcl : (nI k).toNatClampNeg = k := nI_clamp (by omega)
    have hin : vp_in (nI k) 5 := vp_in_nI (by omega) (by omega)
    have next := ih (k + 1) (by omega)
    rw [nI_succ] at next
    refine z_Run_of z_tk12 [(8, [0, 1, 2, 3])] 60 (fun C K R hC hK hR => ?_)
    refine And.intro (fun q => absurd q (by rw [hc]; grind)) (fun q => ?_)
    conv => whnf
    refine hC _ _ _ _ (s_B0_sitsN hc hn (by omega) (fun r hr => ?_))
    refine And.intro (fun e => ?_) (fun e => ?_)
    · have h0 : S.2 8 k = 0 := by grind
      rw [sumF, if_pos h0] at next
      exact hK _ _ _ _ next
    · have h0 : ¬ S.2 8 k = 0 := by grind
      rw [sumF, if_neg h0] at next
      refine And.intro hin (And.intro hin (And.intro hin ?_))
      conv => whnf
      obtain ⟨f1, f2⟩ := hf k (by omega)
      obtain ⟨a1, a2⟩ := arm_in hv.1 hv.2 f1 f2
      refine hC _ _ _ _ (s_B_turnOf (by rw [hcl]; exact a1) (by rw [hcl]; exact a2) (fun r2 hr2 => ?_))
      rw [hcl] at hr2
      refine hK _ _ _ _ ?_
      have e2 : r2 = turnF (S.2 5 k) (S.2 6 k) (armF v (S.2 8 k)) := hr2
      rw [← e2] at next
      exact next
theorem s_B0_turnedBy {d n : Nat} {S : z_S} {Z : z_Zt} {v : Int32} (hc : S.1 3 = nI n) (hn : n ≤ 5) (hf : z_fe n (S.2 8)) (hv : 0 ≤ v ∧ v ≤ 4) (hz : Z (some (.inl (sumF (S.1 1) v (S.2 5) (S.2 6) (S.2 8) n))) (z_H S)) : z_EvM (d + 4) 73 12 [z_p 4, .inl v] (z_H S) Z := by
  refine z_go (c := 0) (t := z_t12) rfl rfl rfl z_tk12 [(8, [0, 1, 2, 3])] 60 (fun C K R hC hK hR => ?_)
  conv => whnf
  refine hC _ _ _ _ (s_B0_ownTurnBy (fun r hr => ?_))
  subst hr
  exact hK _ _ _ _ (l_B0_turnedBy hc hn hf hv hz n 0 (by omega))
theorem s_B0_turned {d n : Nat} {S : z_S} {Z : z_Zt} (hc : S.1 3 = nI n) (hn : n ≤ 5) (hf : z_fe n (S.2 8)) (hv : 0 ≤ S.1 2 ∧ S.1 2 ≤ 4) (hz : Z (some (.inl (sumF (S.1 1) (S.1 2) (S.2 5) (S.2 6) (S.2 8) n))) (z_H S)) : z_EvM (d + 5) 73 11 [z_p 4] (z_H S) Z := by
  refine z_go (c := 0) (t := z_t11) rfl rfl rfl z_tk11 [] 60 (fun C K R hC hK hR => ?_)
  conv => whnf
  refine hC _ _ _ _ (s_B0_turnedBy hc hn hf hv ?_)
  exact hR _ _ ⟨_, rfl, rfl⟩ hz
theorem s_B0_turnOn {d k : Nat} {S : z_S} {Z : z_Zt} {x : Int32} (hk : k < 5) (hx : -6 ≤ x ∧ x ≤ 6) (hv : 0 ≤ S.1 2 ∧ S.1 2 ≤ 4) (hz : ∀ r : Int32, r = turnF (S.2 5 k) (S.2 6 k) (armF (S.1 2) x) → Z (some (.inl r)) (z_H S)) : z_EvM (d + 4) 73 13 [z_p 4, .inl (nI k), .inl x] (z_H S) Z := by
  have hcl : (nI k).toNatClampNeg = k := nI_clamp (by omega)
  have hin : vp_in (nI k) 5 := vp_in_nI (by omega) (by omega)
  obtain ⟨a1, a2⟩ := arm_in hv.1 hv.2 hx.1 hx.2
  refine z_go (c := 0) (t := z_t13) rfl rfl rfl z_tk13 [] 60 (fun C K R hC hK hR => ?_)
  refine And.intro hin (And.intro hin ?_)
  conv => whnf
  refine hC _ _ _ _ (s_B0_armOf (fun r hr => ?_))
  subst hr
  conv => whnf
  refine hC _ _ _ _ (s_B_turnOf a1 a2 (fun r hr => ?_))
  rw [hcl] at hr
  exact hR _ _ ⟨_, rfl, rfl⟩ (hz _ hr)
theorem l_B0_slowness {d n : Nat} {S : z_S} {Z : z_Zt} (hc : S.1 3 = nI n) (hn : n ≤ 5) (hz : ∀ r : Int32, r = (if inrF (S.1 1) (S.1 2) (S.2 6) (S.2 8) n < 1 then 1 else inrF (S.1 1) (S.1 2) (S.2 6) (S.2 8) n) → Z (some (.inl r)) (z_H S)) : ∀ m k, k + m = n → z_Run (d + 3) 73 (z_own 0) z_m14.2.1 z_m14.2.2.1 none (fun v h' => z_nar z_m14.2.2.2.1 v ∧ Z v h') 7 [(0, z_p 4), (1, .inl (inrF (S.1 1) (S.1 2) (S.2 6) (S.2 8) k)), (2, .inl (nI k))] [] (z_H S) := by
  intro m
  induction m with
  | zero =>
    intro k hk
    have hk : k = n := by omega
    subst hk
    refine z_Run_of z_tk14 [] 60 (fun C K R hC hK hR => ?_)
    refine And.intro (fun q => ?_) (fun q => absurd (by rw [hc]; grind) q)
    exact hR _ _ ⟨⟨_, rfl, rfl⟩, hz _ (by grind)⟩
  | succ m ih =>
    intro k hk
    have hlt : nI k < nI n := nI_lt (by omega) (by omega)
    have hcl : (nI k).toNatClampNeg = k := nI_clamp (by omega)
    have hin : vp_in (nI k) 5 := vp_in_nI (by omega) (by omega)
    have next := ih (k + 1) (by omega)
    rw [nI_succ] at next
    refine z_Run_of z_tk14 [(7, [0, 1, 2])] 60 (fun C K R hC hK hR => ?_)
    refine And.intro (fun q => absurd q (by rw [hc]; grind)) (fun q => ?_)
    conv => whnf
    refine hC _ _ _ _ (s_B0_sitsN hc hn (by omega) (fun r hr => ?_))
    refine And.intro (fun e => ?_) (fun e => ?_)
    · have h0 : S.2 8 k = 0 := by grind
      rw [inrF, if_pos h0] at next
      exact hK _ _ _ _ next
    · have h0 : ¬ S.2 8 k = 0 := by grind
      rw [inrF, if_neg h0] at next
      refine And.intro hin ?_
      conv => whnf
      refine hC _ _ _ _ (s_B0_armOf (fun r2 hr2 => ?_))
      rw [hcl] at hr2
      refine And.intro hin ?_
      refine hK _ _ _ _ ?_
      rw [hcl]
      subst hr2
      exact next
theorem s_B0_slowness {d n : Nat} {S : z_S} {Z : z_Zt} (hc : S.1 3 = nI n) (hn : n ≤ 5) (hz : ∀ r : Int32, r = (if inrF (S.1 1) (S.1 2) (S.2 6) (S.2 8) n < 1 then 1 else inrF (S.1 1) (S.1 2) (S.2 6) (S.2 8) n) → Z (some (.inl r)) (z_H S)) : z_EvM (d + 3) 73 14 [z_p 4] (z_H S) Z := by
  refine z_go (c := 0) (t := z_t14) rfl rfl rfl z_tk14 [(7, [0, 1, 2])] 60 (fun C K R hC hK hR => ?_)
  exact hK _ _ _ _ (l_B0_slowness hc hn hz n 0 (by omega))
theorem l_B0_legsOn {d n : Nat} {S : z_S} {Z : z_Zt} {x : Int32} (hc : S.1 3 = nI n) (hn : n ≤ 5) (hz : Z (some (.inl (legF (S.1 2) x (S.2 7) (S.2 8) n))) (z_H S)) : ∀ m k, k + m = n → z_Run (d + 3) 73 (z_own 0) z_m15.2.1 z_m15.2.2.1 none (fun v h' => z_nar z_m15.2.2.2.1 v ∧ Z v h') 4 [(0, z_p 4), (1, .inl x), (2, .inl (legF (S.1 2) x (S.2 7) (S.2 8) k)), (3, .inl (nI k))] [] (z_H S) := by
  intro m
  induction m with
  | zero =>
    intro k hk
    have hk : k = n := by omega
    subst hk
    refine z_Run_of z_tk15 [] 60 (fun C K R hC hK hR => ?_)
    refine And.intro (fun q => ?_) (fun q => absurd (by rw [hc]; grind) q)
    exact hR _ _ ⟨⟨_, rfl, rfl⟩, hz⟩
  | succ m ih =>
    intro k hk
    have hlt : nI k < nI n := nI_lt (by omega) (by omega)
    have hcl : (nI k).toNatClampNeg = k := nI_clamp (by omega)
    have hin : vp_in (nI k) 5 := vp_in_nI (by omega) (by omega)
    have next := ih (k + 1) (by omega)
    rw [nI_succ] at next
    refine z_Run_of z_tk15 [(4, [0, 1, 2, 3])] 60 (fun C K R hC hK hR => ?_)
    refine And.intro (fun q => absurd q (by rw [hc]; grind)) (fun q => ?_)
    conv => whnf
    refine hC _ _ _ _ (s_B0_sitsN hc hn (by omega) (fun r hr => ?_))
    refine And.intro (fun e => ?_) (fun e => ?_)
    · have h0 : S.2 8 k = 0 := by grind
      rw [legF, if_neg (fun g => g.1 h0)] at next
      exact hK _ _ _ _ next
    · have h0 : ¬ S.2 8 k = 0 := by grind
      refine And.intro hin ?_
      conv => whnf
      refine hC _ _ _ _ (s_B0_armOf (fun r2 hr2 => ?_))
      rw [hcl] at hr2
      subst hr2
      refine And.intro (fun e2 => ?_) (fun e2 => ?_)
      · rw [legF, if_neg (fun g => absurd g.2 (by grind))] at next
        exact hK _ _ _ _ next
      · rw [legF, if_pos ⟨h0, by grind⟩] at next
        refine And.intro hin ?_
        refine hK _ _ _ _ ?_
        rw [hcl]
        exact next
theorem s_B0_legsOn {d n : Nat} {S : z_S} {Z : z_Zt} {x : Int32} (hc : S.1 3 = nI n) (hn : n ≤ 5) (hz : Z (some (.inl (legF (S.1 2) x (S.2 7) (S.2 8) n))) (z_H S)) : z_EvM (d + 3) 73 15 [z_p 4, .inl x] (z_H S) Z := by
  refine z_go (c := 0) (t := z_t15) rfl rfl rfl z_tk15 [(4, [0, 1, 2, 3])] 60 (fun C K R hC hK hR => ?_)
  exact hK _ _ _ _ (l_B0_legsOn hc hn hz n 0 (by omega))

theorem l_B1_sitters {d n : Nat} {S : z_S} {Z : z_Zt} (hc : S.1 7 = nI n) (hn : n ≤ 5) (hz : Z (some (.inl (cntF (S.2 13) n))) (z_H S)) : ∀ m k, k + m = n → z_Run (d + 3) 73 (z_own 0) z_m6.2.1 z_m6.2.2.1 none (fun v h' => z_nar z_m6.2.2.2.1 v ∧ Z v h') 4 [(0, z_p 9), (1, .inl (cntF (S.2 13) k)), (2, .inl (nI k))] [] (z_H S) := by
  intro m
  induction m with
  | zero =>
    intro k hk
    have hk : k = n := by omega
    subst hk
    refine z_Run_of z_tk6 [] 60 (fun C K R hC hK hR => ?_)
    refine And.intro (fun q => ?_) (fun q => absurd (by rw [hc]; grind) q)
    exact hR _ _ ⟨⟨_, rfl, rfl⟩, hz⟩
  | succ m ih =>
    intro k hk
    have hlt : nI k < nI n := nI_lt (by omega) (by omega)
    have next := ih (k + 1) (by omega)
    rw [nI_succ] at next
    refine z_Run_of z_tk6 [(4, [0, 1, 2])] 60 (fun C K R hC hK hR => ?_)
    refine And.intro (fun q => absurd q (by rw [hc]; grind)) (fun q => ?_)
    conv => whnf
    refine hC _ _ _ _ (s_B1_sitsN hc hn (by omega) (fun r hr => ?_))
    refine And.intro (fun e => ?_) (fun e => ?_)
    · have h0 : S.2 13 k = 0 := by grind
      rw [cntF, if_pos h0] at next
      refine hK _ _ _ _ ?_
      have e0 : cntF (S.2 13) k + 0 = cntF (S.2 13) k := by grind
      rw [← e0] at next
      exact next
    · have h0 : ¬ S.2 13 k = 0 := by grind
      rw [cntF, if_neg h0] at next
      exact hK _ _ _ _ next
theorem s_B1_sitters {d n : Nat} {S : z_S} {Z : z_Zt} (hc : S.1 7 = nI n) (hn : n ≤ 5) (hz : Z (some (.inl (cntF (S.2 13) n))) (z_H S)) : z_EvM (d + 3) 73 6 [z_p 9] (z_H S) Z := by
  refine z_go (c := 0) (t := z_t6) rfl rfl rfl z_tk6 [(4, [0, 1, 2])] 60 (fun C K R hC hK hR => ?_)
  exact hK _ _ _ _ (l_B1_sitters hc hn hz n 0 (by omega))
theorem l_B1_turnedBy {d n : Nat} {S : z_S} {Z : z_Zt} {v : Int32} (hc : S.1 7 = nI n) (hn : n ≤ 5) (hf : z_fe n (S.2 13)) (hv : 0 ≤ v ∧ v ≤ 4) (hz : Z (some (.inl (sumF (S.1 5) v (S.2 10) (S.2 11) (S.2 13) n))) (z_H S)) : ∀ m k, k + m = n → z_Run (d + 4) 73 (z_own 0) z_m12.2.1 z_m12.2.2.1 none (fun v h' => z_nar z_m12.2.2.2.1 v ∧ Z v h') 8 [(0, z_p 9), (1, .inl v), (2, .inl (sumF (S.1 5) v (S.2 10) (S.2 11) (S.2 13) k)), (3, .inl (nI k))] [] (z_H S) := by
  intro m
  induction m with
  | zero =>
    intro k hk
    have hk : k = n := by omega
    subst hk
    refine z_Run_of z_tk12 [] 60 (fun C K R hC hK hR => ?_)
    refine And.intro (fun q => ?_) (fun q => absurd (by rw [hc]; grind) q)
    exact hR _ _ ⟨⟨_, rfl, rfl⟩, hz⟩
  | succ m ih =>
    intro k hk
    have hlt : nI k < nI n := nI_lt (by omega) (by omega)
    have hcl : (nI k).toNatClampNeg = k := nI_clamp (by omega)
    have hin : vp_in (nI k) 5 := vp_in_nI (by omega) (by omega)
    have next := ih (k + 1) (by omega)
    rw [nI_succ] at next
    refine z_Run_of z_tk12 [(8, [0, 1, 2, 3])] 60 (fun C K R hC hK hR => ?_)
    refine And.intro (fun q => absurd q (by rw [hc]; grind)) (fun q => ?_)
    conv => whnf
    refine hC _ _ _ _ (s_B1_sitsN hc hn (by omega) (fun r hr => ?_))
    refine And.intro (fun e => ?_) (fun e => ?_)
    · have h0 : S.2 13 k = 0 := by grind
      rw [sumF, if_pos h0] at next
      exact hK _ _ _ _ next
    · have h0 : ¬ S.2 13 k = 0 := by grind
      rw [sumF, if_neg h0] at next
      refine And.intro hin (And.intro hin (And.intro hin ?_))
      conv => whnf
      obtain ⟨f1, f2⟩ := hf k (by omega)
      obtain ⟨a1, a2⟩ := arm_in hv.1 hv.2 f1 f2
      refine hC _ _ _ _ (s_B_turnOf (by rw [hcl]; exact a1) (by rw [hcl]; exact a2) (fun r2 hr2 => ?_))
      rw [hcl] at hr2
      refine hK _ _ _ _ ?_
      have e2 : r2 = turnF (S.2 10 k) (S.2 11 k) (armF v (S.2 13 k)) := hr2
      rw [← e2] at next
      exact next
theorem s_B1_turnedBy {d n : Nat} {S : z_S} {Z : z_Zt} {v : Int32} (hc : S.1 7 = nI n) (hn : n ≤ 5) (hf : z_fe n (S.2 13)) (hv : 0 ≤ v ∧ v ≤ 4) (hz : Z (some (.inl (sumF (S.1 5) v (S.2 10) (S.2 11) (S.2 13) n))) (z_H S)) : z_EvM (d + 4) 73 12 [z_p 9, .inl v] (z_H S) Z := by
  refine z_go (c := 0) (t := z_t12) rfl rfl rfl z_tk12 [(8, [0, 1, 2, 3])] 60 (fun C K R hC hK hR => ?_)
  conv => whnf
  refine hC _ _ _ _ (s_B1_ownTurnBy (fun r hr => ?_))
  subst hr
  exact hK _ _ _ _ (l_B1_turnedBy hc hn hf hv hz n 0 (by omega))
theorem s_B1_turned {d n : Nat} {S : z_S} {Z : z_Zt} (hc : S.1 7 = nI n) (hn : n ≤ 5) (hf : z_fe n (S.2 13)) (hv : 0 ≤ S.1 6 ∧ S.1 6 ≤ 4) (hz : Z (some (.inl (sumF (S.1 5) (S.1 6) (S.2 10) (S.2 11) (S.2 13) n))) (z_H S)) : z_EvM (d + 5) 73 11 [z_p 9] (z_H S) Z := by
  refine z_go (c := 0) (t := z_t11) rfl rfl rfl z_tk11 [] 60 (fun C K R hC hK hR => ?_)
  conv => whnf
  refine hC _ _ _ _ (s_B1_turnedBy hc hn hf hv ?_)
  exact hR _ _ ⟨_, rfl, rfl⟩ hz
theorem s_B1_turnOn {d k : Nat} {S : z_S} {Z : z_Zt} {x : Int32} (hk : k < 5) (hx : -6 ≤ x ∧ x ≤ 6) (hv : 0 ≤ S.1 6 ∧ S.1 6 ≤ 4) (hz : ∀ r : Int32, r = turnF (S.2 10 k) (S.2 11 k) (armF (S.1 6) x) → Z (some (.inl r)) (z_H S)) : z_EvM (d + 4) 73 13 [z_p 9, .inl (nI k), .inl x] (z_H S) Z := by
  have hcl : (nI k).toNatClampNeg = k := nI_clamp (by omega)
  have hin : vp_in (nI k) 5 := vp_in_nI (by omega) (by omega)
  obtain ⟨a1, a2⟩ := arm_in hv.1 hv.2 hx.1 hx.2
  refine z_go (c := 0) (t := z_t13) rfl rfl rfl z_tk13 [] 60 (fun C K R hC hK hR => ?_)
  refine And.intro hin (And.intro hin ?_)
  conv => whnf
  refine hC _ _ _ _ (s_B1_armOf (fun r hr => ?_))
  subst hr
  conv => whnf
  refine hC _ _ _ _ (s_B_turnOf a1 a2 (fun r hr => ?_))
  rw [hcl] at hr
  exact hR _ _ ⟨_, rfl, rfl⟩ (hz _ hr)
theorem l_B1_slowness {d n : Nat} {S : z_S} {Z : z_Zt} (hc : S.1 7 = nI n) (hn : n ≤ 5) (hz : ∀ r : Int32, r = (if inrF (S.1 5) (S.1 6) (S.2 11) (S.2 13) n < 1 then 1 else inrF (S.1 5) (S.1 6) (S.2 11) (S.2 13) n) → Z (some (.inl r)) (z_H S)) : ∀ m k, k + m = n → z_Run (d + 3) 73 (z_own 0) z_m14.2.1 z_m14.2.2.1 none (fun v h' => z_nar z_m14.2.2.2.1 v ∧ Z v h') 7 [(0, z_p 9), (1, .inl (inrF (S.1 5) (S.1 6) (S.2 11) (S.2 13) k)), (2, .inl (nI k))] [] (z_H S) := by
  intro m
  induction m with
  | zero =>
    intro k hk
    have hk : k = n := by omega
    subst hk
    refine z_Run_of z_tk14 [] 60 (fun C K R hC hK hR => ?_)
    refine And.intro (fun q => ?_) (fun q => absurd (by rw [hc]; grind) q)
    exact hR _ _ ⟨⟨_, rfl, rfl⟩, hz _ (by grind)⟩
  | succ m ih =>
    intro k hk
    have hlt : nI k < nI n := nI_lt (by omega) (by omega)
    have hcl : (nI k).toNatClampNeg = k := nI_clamp (by omega)
    have hin : vp_in (nI k) 5 := vp_in_nI (by omega) (by omega)
    have next := ih (k + 1) (by omega)
    rw [nI_succ] at next
    refine z_Run_of z_tk14 [(7, [0, 1, 2])] 60 (fun C K R hC hK hR => ?_)
    refine And.intro (fun q => absurd q (by rw [hc]; grind)) (fun q => ?_)
    conv => whnf
    refine hC _ _ _ _ (s_B1_sitsN hc hn (by omega) (fun r hr => ?_))
    refine And.intro (fun e => ?_) (fun e => ?_)
    · have h0 : S.2 13 k = 0 := by grind
      rw [inrF, if_pos h0] at next
      exact hK _ _ _ _ next
    · have h0 : ¬ S.2 13 k = 0 := by grind
      rw [inrF, if_neg h0] at next
      refine And.intro hin ?_
      conv => whnf
      refine hC _ _ _ _ (s_B1_armOf (fun r2 hr2 => ?_))
      rw [hcl] at hr2
      refine And.intro hin ?_
      refine hK _ _ _ _ ?_
      rw [hcl]
      subst hr2
      exact next
theorem s_B1_slowness {d n : Nat} {S : z_S} {Z : z_Zt} (hc : S.1 7 = nI n) (hn : n ≤ 5) (hz : ∀ r : Int32, r = (if inrF (S.1 5) (S.1 6) (S.2 11) (S.2 13) n < 1 then 1 else inrF (S.1 5) (S.1 6) (S.2 11) (S.2 13) n) → Z (some (.inl r)) (z_H S)) : z_EvM (d + 3) 73 14 [z_p 9] (z_H S) Z := by
  refine z_go (c := 0) (t := z_t14) rfl rfl rfl z_tk14 [(7, [0, 1, 2])] 60 (fun C K R hC hK hR => ?_)
  exact hK _ _ _ _ (l_B1_slowness hc hn hz n 0 (by omega))
theorem l_B1_legsOn {d n : Nat} {S : z_S} {Z : z_Zt} {x : Int32} (hc : S.1 7 = nI n) (hn : n ≤ 5) (hz : Z (some (.inl (legF (S.1 6) x (S.2 12) (S.2 13) n))) (z_H S)) : ∀ m k, k + m = n → z_Run (d + 3) 73 (z_own 0) z_m15.2.1 z_m15.2.2.1 none (fun v h' => z_nar z_m15.2.2.2.1 v ∧ Z v h') 4 [(0, z_p 9), (1, .inl x), (2, .inl (legF (S.1 6) x (S.2 12) (S.2 13) k)), (3, .inl (nI k))] [] (z_H S) := by
  intro m
  induction m with
  | zero =>
    intro k hk
    have hk : k = n := by omega
    subst hk
    refine z_Run_of z_tk15 [] 60 (fun C K R hC hK hR => ?_)
    refine And.intro (fun q => ?_) (fun q => absurd (by rw [hc]; grind) q)
    exact hR _ _ ⟨⟨_, rfl, rfl⟩, hz⟩
  | succ m ih =>
    intro k hk
    have hlt : nI k < nI n := nI_lt (by omega) (by omega)
    have hcl : (nI k).toNatClampNeg = k := nI_clamp (by omega)
    have hin : vp_in (nI k) 5 := vp_in_nI (by omega) (by omega)
    have next := ih (k + 1) (by omega)
    rw [nI_succ] at next
    refine z_Run_of z_tk15 [(4, [0, 1, 2, 3])] 60 (fun C K R hC hK hR => ?_)
    refine And.intro (fun q => absurd q (by rw [hc]; grind)) (fun q => ?_)
    conv => whnf
    refine hC _ _ _ _ (s_B1_sitsN hc hn (by omega) (fun r hr => ?_))
    refine And.intro (fun e => ?_) (fun e => ?_)
    · have h0 : S.2 13 k = 0 := by grind
      rw [legF, if_neg (fun g => g.1 h0)] at next
      exact hK _ _ _ _ next
    · have h0 : ¬ S.2 13 k = 0 := by grind
      refine And.intro hin ?_
      conv => whnf
      refine hC _ _ _ _ (s_B1_armOf (fun r2 hr2 => ?_))
      rw [hcl] at hr2
      subst hr2
      refine And.intro (fun e2 => ?_) (fun e2 => ?_)
      · rw [legF, if_neg (fun g => absurd g.2 (by grind))] at next
        exact hK _ _ _ _ next
      · rw [legF, if_pos ⟨h0, by grind⟩] at next
        refine And.intro hin ?_
        refine hK _ _ _ _ ?_
        rw [hcl]
        exact next
theorem s_B1_legsOn {d n : Nat} {S : z_S} {Z : z_Zt} {x : Int32} (hc : S.1 7 = nI n) (hn : n ≤ 5) (hz : Z (some (.inl (legF (S.1 6) x (S.2 12) (S.2 13) n))) (z_H S)) : z_EvM (d + 3) 73 15 [z_p 9, .inl x] (z_H S) Z := by
  refine z_go (c := 0) (t := z_t15) rfl rfl rfl z_tk15 [(4, [0, 1, 2, 3])] 60 (fun C K R hC hK hR => ?_)
  exact hK _ _ _ _ (l_B1_legsOn hc hn hz n 0 (by omega))
