/-! THE REFERENCE: its row s is told by data D; seats, sums -/
def z_Rl (s : Nat → Int32) (D : z_S) : Prop := (∀ j, j < 6 → s j = D.1 j) ∧ (∀ c, c < 5 → ∀ j, j < 4 → s (6 + 4 * c + j) = D.2 j c) ∧ (∀ i, i < 10 → ∀ j, j < 4 → s (26 + 4 * i + j) = D.2 (4 + j) i) ∧ (∀ i, i < 8 → ∀ j, j < 3 → s (66 + 3 * i + j) = D.2 (8 + j) i)
theorem kidx_all : ∀ k : Fin 5, ∀ j : Fin 4, ((6 : Int32) + 4 * nI k.val + nI j.val).toNatClampNeg = 6 + 4 * k.val + j.val ∧ ¬ ((6 : Int32) + 4 * nI k.val + nI j.val < 0) := by decide +kernel
theorem kidx {k j : Nat} (hk : k < 5) (hj : j < 4) : ((6 : Int32) + 4 * nI k + nI j).toNatClampNeg = 6 + 4 * k + j := (kidx_all ⟨k, hk⟩ ⟨j, hj⟩).1
theorem kidv {k j : Nat} (hk : k < 5) (hj : j < 4) : vp_in ((6 : Int32) + 4 * nI k + nI j) 90 := by
  intro h
  rcases h with h | h
  · exact (kidx_all ⟨k, hk⟩ ⟨j, hj⟩).2 h
  · rw [kidx hk hj] at h; omega
section z_md
variable {d n : Nat} {S D : z_S} {Z : z_Zt}
theorem s_M_kidN {k : Nat} (hD : z_Rl (S.2 61) D) (hk : k < 5) (j : Nat) (hj : j < 4) {x : Int32} (hx : x = nI j) (hz : Z (some (.inl (D.2 j k))) (z_H S)) : z_EvM (d + 1) 73 117 [z_p 59, .inl (nI k), .inl x] (z_H S) Z := by
  subst hx
  refine s_M_kid (kidv hk hj) ?_
  rw [kidx hk hj, hD.2.1 k hk j hj]
  exact hz
theorem s_M_seatN {k : Nat} (hD : z_Rl (S.2 61) D) (hk : k < 5) (hz : Z (some (.inl (D.2 3 k))) (z_H S)) : z_EvM (d + 2) 73 118 [z_p 59, .inl (nI k)] (z_H S) Z := by
  refine s_M_seatOf (kidv (j := 3) hk (by omega)) ?_
  have := kidx (j := 3) hk (by omega)
  rw [show ((6 : Int32) + 4 * nI k + 3).toNatClampNeg = 6 + 4 * k + 3 from this, hD.2.1 k hk 3 (by omega)]
  exact hz
theorem s_M_turnN {k : Nat} {x : Int32} (hD : z_Rl (S.2 61) D) (hk : k < 5) (hz : ∀ r : Int32, r = turnF (D.2 0 k) (D.2 1 k) (armF (D.1 2) x) → Z (some (.inl r)) (z_H S)) : z_EvM (d + 2) 73 139 [z_p 59, .inl (nI k), .inl x] (z_H S) Z := by
  refine s_M_turnOf (kidv (j := 0) hk (by omega)) (kidv (j := 1) hk (by omega)) (fun r hr => hz r ?_)
  rw [hr, show ((6 : Int32) + 4 * nI k + 0).toNatClampNeg = 6 + 4 * k + 0 from kidx (j := 0) hk (by omega), show ((6 : Int32) + 4 * nI k + 1).toNatClampNeg = 6 + 4 * k + 1 from kidx (j := 1) hk (by omega), hD.2.1 k hk 0 (by omega), hD.2.1 k hk 1 (by omega), hD.1 2 (by omega)]
def whoF (r : Int32) (n : Nat) (fe : Nat → Int32) (x : Int32) : Prop := (∃ i, i < n ∧ r = nI i ∧ ¬ x = 0 ∧ fe i = x ∧ ∀ j, j < i → ¬ fe j = x) ∨ (r = -9 ∧ (x = 0 ∨ ∀ i, i < n → ¬ fe i = x))
theorem l_M_whoSits {x : Int32} (hD : z_Rl (S.2 61) D) (hc : D.1 3 = nI n) (hn : n ≤ 5) (hz : ∀ r : Int32, whoF r n (D.2 3) x → Z (some (.inl r)) (z_H S)) : ∀ m k, k + m = n → (x = 0 ∨ ∀ i, i < k → ¬ D.2 3 i = x) → z_Run (d + 3) 73 (z_own 8) z_m134.2.1 z_m134.2.2.1 none (fun v h' => z_nar z_m134.2.2.2.1 v ∧ Z v h') 2 [(0, z_p 59), (1, .inl x), (2, .inl (nI k))] [] (z_H S) := by
  have hs3 : S.2 61 3 = nI n := (hD.1 3 (by omega)).trans hc
  intro m
  induction m with
  | zero =>
    intro k hk hall
    have hk : k = n := by omega
    subst hk
    refine z_Run_of z_tk134 [] 60 (fun C K R hC hK hR => ?_)
    refine And.intro (vp_in_iff.mpr (by decide)) ?_
    refine And.intro (fun q => ?_) (fun q => absurd (show S.2 61 3 ≤ nI k by rw [hs3]; grind) q)
    exact hR _ _ ⟨⟨_, rfl, rfl⟩, hz _ (Or.inr ⟨rfl, hall⟩)⟩
  | succ m ih =>
    intro k hk hall
    have hlt : nI k < nI n := nI_lt (by omega) (by omega)
    refine z_Run_of z_tk134 [(2, [0, 1, 2])] 60 (fun C K R hC hK hR => ?_)
    refine And.intro (vp_in_iff.mpr (by decide)) ?_
    refine And.intro (fun q => absurd q (show ¬ S.2 61 3 ≤ nI k by rw [hs3]; grind)) (fun q => ?_)
    refine And.intro (fun e => ?_) (fun e => ?_)
    · have next := ih (k + 1) (by omega) (Or.inl e)
      rw [nI_succ] at next
      exact hK _ _ _ _ next
    · conv => whnf
      refine hC _ _ _ _ (s_M_seatN hD (by omega) ?_)
      refine And.intro (fun e2 => ?_) (fun e2 => ?_)
      · have next := ih (k + 1) (by omega) (Or.inr (fun i hi => by
          by_cases he : i = k
          · rw [he]; exact e2
          · rcases hall with h | h
            · exact absurd h e
            · exact h i (by omega)))
        rw [nI_succ] at next
        exact hK _ _ _ _ next
      · refine hR _ _ ⟨⟨_, rfl, rfl⟩, hz _ (Or.inl ⟨k, by omega, rfl, e, e2, ?_⟩)⟩
        rcases hall with h | h
        · exact absurd h e
        · exact h
theorem s_M_whoSits {x : Int32} (hD : z_Rl (S.2 61) D) (hc : D.1 3 = nI n) (hn : n ≤ 5) (hz : ∀ r : Int32, whoF r n (D.2 3) x → Z (some (.inl r)) (z_H S)) : z_EvM (d + 3) 73 134 [z_p 59, .inl x] (z_H S) Z := by
  refine z_go (c := 8) (t := z_t134) rfl rfl rfl z_tk134 [(2, [0, 1, 2])] 60 (fun C K R hC hK hR => ?_)
  exact hK _ _ _ _ (l_M_whoSits hD hc hn hz n 0 (by omega) (Or.inr (fun i hi => by omega)))
theorem l_M_sumNow (hD : z_Rl (S.2 61) D) (hc : D.1 3 = nI n) (hn : n ≤ 5) (hz : Z (some (.inl (sumF (D.1 1) (D.1 2) (D.2 0) (D.2 1) (D.2 3) n))) (z_H S)) : ∀ m k, k + m = n → z_Run (d + 3) 73 (z_own 8) z_m141.2.1 z_m141.2.2.1 none (fun v h' => z_nar z_m141.2.2.2.1 v ∧ Z v h') 8 [(0, z_p 59), (1, .inl (sumF (D.1 1) (D.1 2) (D.2 0) (D.2 1) (D.2 3) k)), (2, .inl (nI k))] [] (z_H S) := by
  have hs3 : S.2 61 3 = nI n := (hD.1 3 (by omega)).trans hc
  intro m
  induction m with
  | zero =>
    intro k hk
    have hk : k = n := by omega
    subst hk
    refine z_Run_of z_tk141 [] 60 (fun C K R hC hK hR => ?_)
    refine And.intro (vp_in_iff.mpr (by decide)) ?_
    refine And.intro (fun q => ?_) (fun q => absurd (show S.2 61 3 ≤ nI k by rw [hs3]; grind) q)
    exact hR _ _ ⟨⟨_, rfl, rfl⟩, hz⟩
  | succ m ih =>
    intro k hk
    have hlt : nI k < nI n := nI_lt (by omega) (by omega)
    have next := ih (k + 1) (by omega)
    rw [nI_succ] at next
    refine z_Run_of z_tk141 [(8, [0, 1, 2])] 60 (fun C K R hC hK hR => ?_)
    refine And.intro (vp_in_iff.mpr (by decide)) ?_
    refine And.intro (fun q => absurd q (show ¬ S.2 61 3 ≤ nI k by rw [hs3]; grind)) (fun q => ?_)
    conv => whnf
    refine hC _ _ _ _ (s_M_seatN hD (by omega) ?_)
    refine And.intro (fun e => ?_) (fun e => ?_)
    · rw [sumF, if_pos e] at next
      exact hK _ _ _ _ next
    · rw [sumF, if_neg e] at next
      conv => whnf
      refine hC _ _ _ _ (s_M_seatN hD (by omega) ?_)
      conv => whnf
      refine hC _ _ _ _ (s_M_turnN hD (by omega) (fun r hr => ?_))
      subst hr
      exact hK _ _ _ _ next
theorem s_M_sumNow (hD : z_Rl (S.2 61) D) (hc : D.1 3 = nI n) (hn : n ≤ 5) (hz : Z (some (.inl (sumF (D.1 1) (D.1 2) (D.2 0) (D.2 1) (D.2 3) n))) (z_H S)) : z_EvM (d + 3) 73 141 [z_p 59] (z_H S) Z := by
  refine z_go (c := 8) (t := z_t141) rfl rfl rfl z_tk141 [(8, [0, 1, 2])] 60 (fun C K R hC hK hR => ?_)
  conv => whnf
  refine hC _ _ _ _ (s_M_bare (fun r hr => ?_))
  have e : r = ownF (D.1 1) (D.1 2) := by rw [hr, hD.1 1 (by omega), hD.1 2 (by omega)]; grind
  subst e
  exact hK _ _ _ _ (l_M_sumNow hD hc hn hz n 0 (by omega))
theorem l_M_sitters (hD : z_Rl (S.2 61) D) (hc : D.1 3 = nI n) (hn : n ≤ 5) (hz : Z (some (.inl (cntF (D.2 3) n))) (z_H S)) : ∀ m k, k + m = n → z_Run (d + 3) 73 (z_own 8) z_m152.2.1 z_m152.2.2.1 none (fun v h' => z_nar z_m152.2.2.2.1 v ∧ Z v h') 4 [(0, z_p 59), (1, .inl (cntF (D.2 3) k)), (2, .inl (nI k))] [] (z_H S) := by
  have hs3 : S.2 61 3 = nI n := (hD.1 3 (by omega)).trans hc
  intro m
  induction m with
  | zero =>
    intro k hk
    have hk : k = n := by omega
    subst hk
    refine z_Run_of z_tk152 [] 60 (fun C K R hC hK hR => ?_)
    refine And.intro (vp_in_iff.mpr (by decide)) ?_
    refine And.intro (fun q => ?_) (fun q => absurd (show S.2 61 3 ≤ nI k by rw [hs3]; grind) q)
    exact hR _ _ ⟨⟨_, rfl, rfl⟩, hz⟩
  | succ m ih =>
    intro k hk
    have hlt : nI k < nI n := nI_lt (by omega) (by omega)
    have next := ih (k + 1) (by omega)
    rw [nI_succ] at next
    refine z_Run_of z_tk152 [(4, [0, 1, 2])] 60 (fun C K R hC hK hR => ?_)
    refine And.intro (vp_in_iff.mpr (by decide)) ?_
    refine And.intro (fun q => absurd q (show ¬ S.2 61 3 ≤ nI k by rw [hs3]; grind)) (fun q => ?_)
    conv => whnf
    refine hC _ _ _ _ (s_M_seatN hD (by omega) ?_)
    refine And.intro (fun e => ?_) (fun e => ?_)
    · rw [cntF, if_pos e] at next
      have e0 : cntF (D.2 3) k + 0 = cntF (D.2 3) k := by grind
      rw [← e0] at next
      exact hK _ _ _ _ next
    · rw [cntF, if_neg e] at next
      exact hK _ _ _ _ next
theorem s_M_sitters (hD : z_Rl (S.2 61) D) (hc : D.1 3 = nI n) (hn : n ≤ 5) (hz : Z (some (.inl (cntF (D.2 3) n))) (z_H S)) : z_EvM (d + 3) 73 152 [z_p 59] (z_H S) Z := by
  refine z_go (c := 8) (t := z_t152) rfl rfl rfl z_tk152 [(4, [0, 1, 2])] 60 (fun C K R hC hK hR => ?_)
  exact hK _ _ _ _ (l_M_sitters hD hc hn hz n 0 (by omega))
theorem s_M_armN {x : Int32} (hD : z_Rl (S.2 61) D) (hz : Z (some (.inl (armF (D.1 2) x))) (z_H S)) : z_EvM (d + 1) 73 137 [z_p 59, .inl x] (z_H S) Z := s_M_armOf (fun r hr => by rw [hr, hD.1 2 (by omega)]; exact hz)
theorem l_M_inertiaNow (hD : z_Rl (S.2 61) D) (hc : D.1 3 = nI n) (hn : n ≤ 5) (hz : ∀ r : Int32, r = (if inrF (D.1 1) (D.1 2) (D.2 1) (D.2 3) n < 1 then 1 else inrF (D.1 1) (D.1 2) (D.2 1) (D.2 3) n) → Z (some (.inl r)) (z_H S)) : ∀ m k, k + m = n → z_Run (d + 3) 73 (z_own 8) z_m164.2.1 z_m164.2.2.1 none (fun v h' => z_nar z_m164.2.2.2.1 v ∧ Z v h') 9 [(0, z_p 59), (1, .inl (inrF (D.1 1) (D.1 2) (D.2 1) (D.2 3) k)), (2, .inl (nI k))] [] (z_H S) := by
  have hs3 : S.2 61 3 = nI n := (hD.1 3 (by omega)).trans hc
  intro m
  induction m with
  | zero =>
    intro k hk
    have hk : k = n := by omega
    subst hk
    refine z_Run_of z_tk164 [] 60 (fun C K R hC hK hR => ?_)
    refine And.intro (vp_in_iff.mpr (by decide)) ?_
    refine And.intro (fun q => ?_) (fun q => absurd (show S.2 61 3 ≤ nI k by rw [hs3]; grind) q)
    refine And.intro (fun q => ?_) (fun q => ?_)
    · exact hR _ _ ⟨⟨_, rfl, rfl⟩, hz _ (by grind)⟩
    · exact hR _ _ ⟨⟨_, rfl, rfl⟩, hz _ (by grind)⟩
  | succ m ih =>
    intro k hk
    have hlt : nI k < nI n := nI_lt (by omega) (by omega)
    have next := ih (k + 1) (by omega)
    rw [nI_succ] at next
    refine z_Run_of z_tk164 [(9, [0, 1, 2])] 60 (fun C K R hC hK hR => ?_)
    refine And.intro (vp_in_iff.mpr (by decide)) ?_
    refine And.intro (fun q => absurd q (show ¬ S.2 61 3 ≤ nI k by rw [hs3]; grind)) (fun q => ?_)
    conv => whnf
    refine hC _ _ _ _ (s_M_seatN hD (by omega) ?_)
    refine And.intro (fun e => ?_) (fun e => ?_)
    · rw [inrF, if_pos e] at next
      exact hK _ _ _ _ next
    · rw [inrF, if_neg e] at next
      conv => whnf
      refine hC _ _ _ _ (s_M_kidN hD (by omega) 1 (by omega) rfl ?_)
      conv => whnf
      refine hC _ _ _ _ (s_M_seatN hD (by omega) ?_)
      conv => whnf
      refine hC _ _ _ _ (s_M_armN hD ?_)
      conv => whnf
      refine hC _ _ _ _ (s_M_seatN hD (by omega) ?_)
      conv => whnf
      refine hC _ _ _ _ (s_M_armN hD ?_)
      exact hK _ _ _ _ next
theorem s_M_inertiaNow (hD : z_Rl (S.2 61) D) (hc : D.1 3 = nI n) (hn : n ≤ 5) (hz : ∀ r : Int32, r = (if inrF (D.1 1) (D.1 2) (D.2 1) (D.2 3) n < 1 then 1 else inrF (D.1 1) (D.1 2) (D.2 1) (D.2 3) n) → Z (some (.inl r)) (z_H S)) : z_EvM (d + 3) 73 164 [z_p 59] (z_H S) Z := by
  refine z_go (c := 8) (t := z_t164) rfl rfl rfl z_tk164 [(9, [0, 1, 2])] 60 (fun C K R hC hK hR => ?_)
  refine And.intro (vp_in_iff.mpr (by decide)) ?_
  refine hK _ _ _ _ ?_
  have := l_M_inertiaNow (d := d) hD hc hn hz n 0 (by omega)
  rw [inrF, ← hD.1 1 (by omega)] at this
  exact this
theorem l_M_legsOn {x : Int32} (hD : z_Rl (S.2 61) D) (hc : D.1 3 = nI n) (hn : n ≤ 5) (hz : Z (some (.inl (legF (D.1 2) x (D.2 2) (D.2 3) n))) (z_H S)) : ∀ m k, k + m = n → z_Run (d + 3) 73 (z_own 8) z_m169.2.1 z_m169.2.2.1 none (fun v h' => z_nar z_m169.2.2.2.1 v ∧ Z v h') 4 [(0, z_p 59), (1, .inl x), (2, .inl (legF (D.1 2) x (D.2 2) (D.2 3) k)), (3, .inl (nI k))] [] (z_H S) := by
  have hs3 : S.2 61 3 = nI n := (hD.1 3 (by omega)).trans hc
  intro m
  induction m with
  | zero =>
    intro k hk
    have hk : k = n := by omega
    subst hk
    refine z_Run_of z_tk169 [] 60 (fun C K R hC hK hR => ?_)
    refine And.intro (vp_in_iff.mpr (by decide)) ?_
    refine And.intro (fun q => ?_) (fun q => absurd (show S.2 61 3 ≤ nI k by rw [hs3]; grind) q)
    exact hR _ _ ⟨⟨_, rfl, rfl⟩, hz⟩
  | succ m ih =>
    intro k hk
    have hlt : nI k < nI n := nI_lt (by omega) (by omega)
    have next := ih (k + 1) (by omega)
    rw [nI_succ] at next
    refine z_Run_of z_tk169 [(4, [0, 1, 2, 3])] 60 (fun C K R hC hK hR => ?_)
    refine And.intro (vp_in_iff.mpr (by decide)) ?_
    refine And.intro (fun q => absurd q (show ¬ S.2 61 3 ≤ nI k by rw [hs3]; grind)) (fun q => ?_)
    conv => whnf
    refine hC _ _ _ _ (s_M_seatN hD (by omega) ?_)
    refine And.intro (fun e => ?_) (fun e => ?_)
    · rw [legF, if_neg (fun g => g.1 e)] at next
      exact hK _ _ _ _ next
    · conv => whnf
      refine hC _ _ _ _ (s_M_seatN hD (by omega) ?_)
      conv => whnf
      refine hC _ _ _ _ (s_M_armN hD ?_)
      refine And.intro (fun e2 => ?_) (fun e2 => ?_)
      · rw [legF, if_neg (fun g => absurd g.2 (by grind))] at next
        exact hK _ _ _ _ next
      · rw [legF, if_pos ⟨e, by grind⟩] at next
        conv => whnf
        refine hC _ _ _ _ (s_M_kidN hD (by omega) 2 (by omega) rfl ?_)
        exact hK _ _ _ _ next
theorem s_M_legsOn {x : Int32} (hD : z_Rl (S.2 61) D) (hc : D.1 3 = nI n) (hn : n ≤ 5) (hz : Z (some (.inl (legF (D.1 2) x (D.2 2) (D.2 3) n))) (z_H S)) : z_EvM (d + 3) 73 169 [z_p 59, .inl x] (z_H S) Z := by
  refine z_go (c := 8) (t := z_t169) rfl rfl rfl z_tk169 [(4, [0, 1, 2, 3])] 60 (fun C K R hC hK hR => ?_)
  exact hK _ _ _ _ (l_M_legsOn hD hc hn hz n 0 (by omega))
end z_md
