/-! THE BOARD of the class (now and trial) -/
def z_fe (n : Nat) (fe : Nat → Int32) : Prop := ∀ k, k < n → -6 ≤ fe k ∧ fe k ≤ 6
def z_b (r : Int32) (P : Prop) : Prop := (r = 1 ∧ P) ∨ (r = 0 ∧ ¬ P)
def sumF (own notch : Int32) (ki we fe : Nat → Int32) : Nat → Int32
  | 0 => ownF own notch
  | k + 1 => if fe k = 0 then sumF own notch ki we fe k else sumF own notch ki we fe k + turnF (ki k) (we k) (armF notch (fe k))
def cntF (fe : Nat → Int32) : Nat → Int32
  | 0 => 0
  | k + 1 => if fe k = 0 then cntF fe k else cntF fe k + 1
def inrF (own notch : Int32) (we fe : Nat → Int32) : Nat → Int32
  | 0 => own
  | k + 1 => if fe k = 0 then inrF own notch we fe k else inrF own notch we fe k + we k * armF notch (fe k) * armF notch (fe k)
def legF (notch side : Int32) (le fe : Nat → Int32) : Nat → Int32
  | 0 => 0
  | k + 1 => if ¬ fe k = 0 ∧ 0 < armF notch (fe k) * side then legF notch side le fe k + le k else legF notch side le fe k
theorem nI_le5 {x : Int32} {n : Nat} (h : x = nI n) (hn : n ≤ 5) : 0 ≤ x ∧ x ≤ 5 := by
  subst h
  exact ⟨nI_pos' (by omega), by have := nI_le (a := n) (b := 5) hn (by omega); exact this⟩
theorem s_B0_hasChild {d : Nat} {S : z_S} {Z : z_Zt} {c : Int32} (hz : ∀ r : Int32, r = (if 0 ≤ c ∧ c < S.1 3 then 1 else 0) → Z (some (.inl r)) (z_H S)) : z_EvM (d + 1) 73 1 [z_p 4, .inl c] (z_H S) Z := by
  refine z_go (c := 0) (t := z_t1) rfl rfl rfl z_tk1 [] 100 (fun C K R hC hK hR => ?_)
  repeat' (first | refine And.intro (fun _ => ?_) (fun _ => ?_) | refine And.intro (vp_in_iff.mpr (by decide)) ?_ | refine And.intro (by decide : ¬ (_ : Int32) = 0) ?_)
  all_goals exact hR _ _ ⟨_, rfl, rfl⟩ (hz _ (by grind []))
theorem s_B0_hasSeat {d : Nat} {S : z_S} {Z : z_Zt} {x : Int32} (hz : ∀ r : Int32, r = (if ¬ x = 0 ∧ x ≤ S.1 0 ∧ -S.1 0 ≤ x then 1 else 0) → Z (some (.inl r)) (z_H S)) : z_EvM (d + 1) 73 2 [z_p 4, .inl x] (z_H S) Z := by
  refine z_go (c := 0) (t := z_t2) rfl rfl rfl z_tk2 [] 100 (fun C K R hC hK hR => ?_)
  repeat' (first | refine And.intro (fun _ => ?_) (fun _ => ?_) | refine And.intro (vp_in_iff.mpr (by decide)) ?_ | refine And.intro (by decide : ¬ (_ : Int32) = 0) ?_)
  all_goals exact hR _ _ ⟨_, rfl, rfl⟩ (hz _ (by grind []))
theorem s_B0_sits {d : Nat} {S : z_S} {Z : z_Zt} {c : Int32} {n : Nat} (hc : S.1 3 = nI n) (hn : n ≤ 5) (hz : ∀ r : Int32, r = (if (0 ≤ c ∧ c < S.1 3) ∧ ¬ S.2 8 c.toNatClampNeg = 0 then 1 else 0) → Z (some (.inl r)) (z_H S)) : z_EvM (d + 2) 73 3 [z_p 4, .inl c] (z_H S) Z := by
  have h5 := nI_le5 hc hn
  refine z_go (c := 0) (t := z_t3) rfl rfl rfl z_tk3 [] 100 (fun C K R hC hK hR => ?_)
  conv => whnf
  refine hC _ _ _ _ (s_B0_hasChild (fun r hr => ?_))
  refine And.intro (fun e => ?_) (fun e => ?_)
  · exact hR _ _ ⟨_, rfl, rfl⟩ (hz _ (by grind))
  · refine And.intro (z_vin 5 rfl (by grind) (by grind)) ?_
    refine And.intro (fun e2 => ?_) (fun e2 => ?_)
    · exact hR _ _ ⟨_, rfl, rfl⟩ (hz _ (by grind))
    · exact hR _ _ ⟨_, rfl, rfl⟩ (hz _ (by grind))
theorem s_B0_sitsN {d : Nat} {S : z_S} {Z : z_Zt} {k n : Nat} (hc : S.1 3 = nI n) (hn : n ≤ 5) (hk : k < n) (hz : ∀ r : Int32, r = (if S.2 8 k = 0 then 0 else 1) → Z (some (.inl r)) (z_H S)) : z_EvM (d + 2) 73 3 [z_p 4, .inl (nI k)] (z_H S) Z := by
  refine s_B0_sits hc hn (fun r hr => hz r ?_)
  rw [nI_clamp (by omega), hc] at hr
  have h1 : (0 : Int32) ≤ nI k := nI_pos' (by omega)
  have h2 : nI k < nI n := nI_lt hk (by omega)
  rw [hr]
  by_cases h0 : S.2 8 k = 0
  · rw [if_neg (by grind), if_pos h0]
  · rw [if_pos (by grind), if_neg h0]
theorem s_B0_armOf {d : Nat} {S : z_S} {Z : z_Zt} {x : Int32} (hz : ∀ r : Int32, r = armF (S.1 2) x → Z (some (.inl r)) (z_H S)) : z_EvM (d + 1) 73 9 [z_p 4, .inl x] (z_H S) Z := by
  refine z_go (c := 0) (t := z_t9) rfl rfl rfl z_tk9 [] 100 (fun C K R hC hK hR => ?_)
  conv => whnf
  exact hR _ _ ⟨_, rfl, rfl⟩ (hz _ rfl)
theorem s_B0_ownTurnBy {d : Nat} {S : z_S} {Z : z_Zt} {v : Int32} (hz : ∀ r : Int32, r = ownF (S.1 1) v → Z (some (.inl r)) (z_H S)) : z_EvM (d + 1) 73 19 [z_p 4, .inl v] (z_H S) Z := by
  refine z_go (c := 0) (t := z_t19) rfl rfl rfl z_tk19 [] 100 (fun C K R hC hK hR => ?_)
  conv => whnf
  exact hR _ _ ⟨_, rfl, rfl⟩ (hz _ rfl)
theorem s_B0_ownTurn {d : Nat} {S : z_S} {Z : z_Zt} (hz : ∀ r : Int32, r = ownF (S.1 1) (S.1 2) → Z (some (.inl r)) (z_H S)) : z_EvM (d + 2) 73 10 [z_p 4] (z_H S) Z := by
  refine z_go (c := 0) (t := z_t10) rfl rfl rfl z_tk10 [] 100 (fun C K R hC hK hR => ?_)
  conv => whnf
  refine hC _ _ _ _ (s_B0_ownTurnBy (fun r hr => ?_))
  exact hR _ _ ⟨_, rfl, rfl⟩ (hz _ hr)
theorem s_B0_seatsMany {d : Nat} {S : z_S} {Z : z_Zt} (hz : ∀ r : Int32, r = 2 * S.1 0 → Z (some (.inl r)) (z_H S)) : z_EvM (d + 1) 73 7 [z_p 4] (z_H S) Z := by
  refine z_go (c := 0) (t := z_t7) rfl rfl rfl z_tk7 [] 100 (fun C K R hC hK hR => ?_)
  conv => whnf
  exact hR _ _ ⟨_, rfl, rfl⟩ (hz _ rfl)
theorem s_B0_seatFromLeft {d : Nat} {S : z_S} {Z : z_Zt} {i : Int32} (hz : ∀ r : Int32, r = (if i < S.1 0 then i - S.1 0 else i - S.1 0 + 1) → Z (some (.inl r)) (z_H S)) : z_EvM (d + 1) 73 8 [z_p 4, .inl i] (z_H S) Z := by
  refine z_go (c := 0) (t := z_t8) rfl rfl rfl z_tk8 [] 100 (fun C K R hC hK hR => ?_)
  repeat' (first | refine And.intro (fun _ => ?_) (fun _ => ?_) | refine And.intro (vp_in_iff.mpr (by decide)) ?_ | refine And.intro (by decide : ¬ (_ : Int32) = 0) ?_)
  all_goals exact hR _ _ ⟨_, rfl, rfl⟩ (hz _ (by grind []))
set_option maxHeartbeats 1000000 in
theorem l_B0_isTakenByOther {d n : Nat} {S : z_S} {Z : z_Zt} {x c : Int32} (hc : S.1 3 = nI n) (hn : n ≤ 5) (hz : ∀ r : Int32, z_b r (∃ i, i < n ∧ ¬ nI i = c ∧ S.2 8 i = x) → Z (some (.inl r)) (z_H S)) : ∀ m k, k + m = n → (∀ i, i < k → ¬ (¬ nI i = c ∧ S.2 8 i = x)) → z_Run (d + 1) 73 (z_own 0) z_m5.2.1 z_m5.2.2.1 none (fun v h' => z_nar z_m5.2.2.2.1 v ∧ Z v h') 2 [(0, z_p 4), (1, .inl x), (2, .inl c), (3, .inl (nI k))] [] (z_H S) := by
  intro m
  induction m with
  | zero =>
    intro k hk hall
    have hk : k = n := by omega
    subst hk
    refine z_Run_of z_tk5 [] 60 (fun C K R hC hK hR => ?_)
    refine And.intro (fun q => ?_) (fun q => absurd (by rw [hc]; grind) q)
    exact hR _ _ ⟨⟨_, rfl, rfl⟩, hz _ (Or.inr ⟨rfl, fun ⟨i, h1, h2⟩ => hall i h1 h2⟩)⟩
  | succ m ih =>
    intro k hk hall
    have hlt : nI k < nI n := nI_lt (by omega) (by omega)
    have next : ¬ (¬ nI k = c ∧ S.2 8 k = x) → z_Run (d + 1) 73 (z_own 0) z_m5.2.1 z_m5.2.2.1 none (fun v h' => z_nar z_m5.2.2.2.1 v ∧ Z v h') 2 [(0, z_p 4), (1, .inl x), (2, .inl c), (3, .inl (nI k + 1))] [] (z_H S) := by
      intro hno
      have := ih (k + 1) (by omega) (fun i hi => by
        by_cases he : i = k
        · subst he; exact hno
        · exact hall i (by omega))
      rw [nI_succ] at this
      exact this
    refine z_Run_of z_tk5 [(2, [0, 1, 2, 3])] 60 (fun C K R hC hK hR => ?_)
    refine And.intro (fun q => absurd q (by rw [hc]; grind)) (fun q => ?_)
    refine And.intro (fun e => hK _ _ _ _ (next (fun g => g.1 e))) (fun e => ?_)
    refine And.intro (vp_in_nI (by omega) (by omega)) ?_
    refine And.intro (fun e2 => hK _ _ _ _ (next (fun g => e2 (by rw [nI_clamp (by omega)]; exact g.2)))) (fun e2 => ?_)
    rw [nI_clamp (by omega)] at e2
    exact hR _ _ ⟨⟨_, rfl, rfl⟩, hz _ (Or.inl ⟨rfl, k, by omega, e, e2⟩)⟩
theorem s_B0_isTakenByOther {d n : Nat} {S : z_S} {Z : z_Zt} {x c : Int32} (hc : S.1 3 = nI n) (hn : n ≤ 5) (hz : ∀ r : Int32, z_b r (∃ i, i < n ∧ ¬ nI i = c ∧ S.2 8 i = x) → Z (some (.inl r)) (z_H S)) : z_EvM (d + 1) 73 5 [z_p 4, .inl x, .inl c] (z_H S) Z := by
  refine z_go (c := 0) (t := z_t5) rfl rfl rfl z_tk5 [(2, [0, 1, 2, 3])] 60 (fun C K R hC hK hR => ?_)
  exact hK _ _ _ _ (l_B0_isTakenByOther hc hn hz n 0 (by omega) (fun i hi => by omega))
theorem s_B0_isTaken {d n : Nat} {S : z_S} {Z : z_Zt} {x : Int32} (hc : S.1 3 = nI n) (hn : n ≤ 5) (hz : ∀ r : Int32, z_b r (∃ i, i < n ∧ S.2 8 i = x) → Z (some (.inl r)) (z_H S)) : z_EvM (d + 2) 73 4 [z_p 4, .inl x] (z_H S) Z := by
  refine z_go (c := 0) (t := z_t4) rfl rfl rfl z_tk4 [] 60 (fun C K R hC hK hR => ?_)
  conv => whnf
  refine hC _ _ _ _ (s_B0_isTakenByOther hc hn (fun r hr => ?_))
  have hr2 : z_b r (∃ i, i < n ∧ S.2 8 i = x) := by
    rcases hr with ⟨h1, i, h2, h3, h4⟩ | ⟨h1, h2⟩
    · exact Or.inl ⟨h1, i, h2, h4⟩
    · refine Or.inr ⟨h1, fun ⟨i, h3, h4⟩ => h2 ⟨i, h3, ?_, h4⟩⟩
      have : (0 : Int32) ≤ nI i := nI_pos' (by omega)
      grind
  refine hR _ _ ⟨_, rfl, ?_⟩ (hz _ hr2)
  rcases hr with ⟨h1, -⟩ | ⟨h1, -⟩ <;> rw [h1] <;> rfl

theorem s_B1_hasChild {d : Nat} {S : z_S} {Z : z_Zt} {c : Int32} (hz : ∀ r : Int32, r = (if 0 ≤ c ∧ c < S.1 7 then 1 else 0) → Z (some (.inl r)) (z_H S)) : z_EvM (d + 1) 73 1 [z_p 9, .inl c] (z_H S) Z := by
  refine z_go (c := 0) (t := z_t1) rfl rfl rfl z_tk1 [] 100 (fun C K R hC hK hR => ?_)
  repeat' (first | refine And.intro (fun _ => ?_) (fun _ => ?_) | refine And.intro (vp_in_iff.mpr (by decide)) ?_ | refine And.intro (by decide : ¬ (_ : Int32) = 0) ?_)
  all_goals exact hR _ _ ⟨_, rfl, rfl⟩ (hz _ (by grind []))
theorem s_B1_hasSeat {d : Nat} {S : z_S} {Z : z_Zt} {x : Int32} (hz : ∀ r : Int32, r = (if ¬ x = 0 ∧ x ≤ S.1 4 ∧ -S.1 4 ≤ x then 1 else 0) → Z (some (.inl r)) (z_H S)) : z_EvM (d + 1) 73 2 [z_p 9, .inl x] (z_H S) Z := by
  refine z_go (c := 0) (t := z_t2) rfl rfl rfl z_tk2 [] 100 (fun C K R hC hK hR => ?_)
  repeat' (first | refine And.intro (fun _ => ?_) (fun _ => ?_) | refine And.intro (vp_in_iff.mpr (by decide)) ?_ | refine And.intro (by decide : ¬ (_ : Int32) = 0) ?_)
  all_goals exact hR _ _ ⟨_, rfl, rfl⟩ (hz _ (by grind []))
theorem s_B1_sits {d : Nat} {S : z_S} {Z : z_Zt} {c : Int32} {n : Nat} (hc : S.1 7 = nI n) (hn : n ≤ 5) (hz : ∀ r : Int32, r = (if (0 ≤ c ∧ c < S.1 7) ∧ ¬ S.2 13 c.toNatClampNeg = 0 then 1 else 0) → Z (some (.inl r)) (z_H S)) : z_EvM (d + 2) 73 3 [z_p 9, .inl c] (z_H S) Z := by
  have h5 := nI_le5 hc hn
  refine z_go (c := 0) (t := z_t3) rfl rfl rfl z_tk3 [] 100 (fun C K R hC hK hR => ?_)
  conv => whnf
  refine hC _ _ _ _ (s_B1_hasChild (fun r hr => ?_))
  refine And.intro (fun e => ?_) (fun e => ?_)
  · exact hR _ _ ⟨_, rfl, rfl⟩ (hz _ (by grind))
  · refine And.intro (z_vin 5 rfl (by grind) (by grind)) ?_
    refine And.intro (fun e2 => ?_) (fun e2 => ?_)
    · exact hR _ _ ⟨_, rfl, rfl⟩ (hz _ (by grind))
    · exact hR _ _ ⟨_, rfl, rfl⟩ (hz _ (by grind))
theorem s_B1_sitsN {d : Nat} {S : z_S} {Z : z_Zt} {k n : Nat} (hc : S.1 7 = nI n) (hn : n ≤ 5) (hk : k < n) (hz : ∀ r : Int32, r = (if S.2 13 k = 0 then 0 else 1) → Z (some (.inl r)) (z_H S)) : z_EvM (d + 2) 73 3 [z_p 9, .inl (nI k)] (z_H S) Z := by
  refine s_B1_sits hc hn (fun r hr => hz r ?_)
  rw [nI_clamp (by omega), hc] at hr
  have h1 : (0 : Int32) ≤ nI k := nI_pos' (by omega)
  have h2 : nI k < nI n := nI_lt hk (by omega)
  rw [hr]
  by_cases h0 : S.2 13 k = 0
  · rw [if_neg (by grind), if_pos h0]
  · rw [if_pos (by grind), if_neg h0]
theorem s_B1_armOf {d : Nat} {S : z_S} {Z : z_Zt} {x : Int32} (hz : ∀ r : Int32, r = armF (S.1 6) x → Z (some (.inl r)) (z_H S)) : z_EvM (d + 1) 73 9 [z_p 9, .inl x] (z_H S) Z := by
  refine z_go (c := 0) (t := z_t9) rfl rfl rfl z_tk9 [] 100 (fun C K R hC hK hR => ?_)
  conv => whnf
  exact hR _ _ ⟨_, rfl, rfl⟩ (hz _ rfl)
theorem s_B1_ownTurnBy {d : Nat} {S : z_S} {Z : z_Zt} {v : Int32} (hz : ∀ r : Int32, r = ownF (S.1 5) v → Z (some (.inl r)) (z_H S)) : z_EvM (d + 1) 73 19 [z_p 9, .inl v] (z_H S) Z := by
  refine z_go (c := 0) (t := z_t19) rfl rfl rfl z_tk19 [] 100 (fun C K R hC hK hR => ?_)
  conv => whnf
  exact hR _ _ ⟨_, rfl, rfl⟩ (hz _ rfl)
theorem s_B1_ownTurn {d : Nat} {S : z_S} {Z : z_Zt} (hz : ∀ r : Int32, r = ownF (S.1 5) (S.1 6) → Z (some (.inl r)) (z_H S)) : z_EvM (d + 2) 73 10 [z_p 9] (z_H S) Z := by
  refine z_go (c := 0) (t := z_t10) rfl rfl rfl z_tk10 [] 100 (fun C K R hC hK hR => ?_)
  conv => whnf
  refine hC _ _ _ _ (s_B1_ownTurnBy (fun r hr => ?_))
  exact hR _ _ ⟨_, rfl, rfl⟩ (hz _ hr)
theorem s_B1_seatsMany {d : Nat} {S : z_S} {Z : z_Zt} (hz : ∀ r : Int32, r = 2 * S.1 4 → Z (some (.inl r)) (z_H S)) : z_EvM (d + 1) 73 7 [z_p 9] (z_H S) Z := by
  refine z_go (c := 0) (t := z_t7) rfl rfl rfl z_tk7 [] 100 (fun C K R hC hK hR => ?_)
  conv => whnf
  exact hR _ _ ⟨_, rfl, rfl⟩ (hz _ rfl)
theorem s_B1_seatFromLeft {d : Nat} {S : z_S} {Z : z_Zt} {i : Int32} (hz : ∀ r : Int32, r = (if i < S.1 4 then i - S.1 4 else i - S.1 4 + 1) → Z (some (.inl r)) (z_H S)) : z_EvM (d + 1) 73 8 [z_p 9, .inl i] (z_H S) Z := by
  refine z_go (c := 0) (t := z_t8) rfl rfl rfl z_tk8 [] 100 (fun C K R hC hK hR => ?_)
  repeat' (first | refine And.intro (fun _ => ?_) (fun _ => ?_) | refine And.intro (vp_in_iff.mpr (by decide)) ?_ | refine And.intro (by decide : ¬ (_ : Int32) = 0) ?_)
  all_goals exact hR _ _ ⟨_, rfl, rfl⟩ (hz _ (by grind []))
set_option maxHeartbeats 1000000 in
theorem l_B1_isTakenByOther {d n : Nat} {S : z_S} {Z : z_Zt} {x c : Int32} (hc : S.1 7 = nI n) (hn : n ≤ 5) (hz : ∀ r : Int32, z_b r (∃ i, i < n ∧ ¬ nI i = c ∧ S.2 13 i = x) → Z (some (.inl r)) (z_H S)) : ∀ m k, k + m = n → (∀ i, i < k → ¬ (¬ nI i = c ∧ S.2 13 i = x)) → z_Run (d + 1) 73 (z_own 0) z_m5.2.1 z_m5.2.2.1 none (fun v h' => z_nar z_m5.2.2.2.1 v ∧ Z v h') 2 [(0, z_p 9), (1, .inl x), (2, .inl c), (3, .inl (nI k))] [] (z_H S) := by
  intro m
  induction m with
  | zero =>
    intro k hk hall
    have hk : k = n := by omega
    subst hk
    refine z_Run_of z_tk5 [] 60 (fun C K R hC hK hR => ?_)
    refine And.intro (fun q => ?_) (fun q => absurd (by rw [hc]; grind) q)
    exact hR _ _ ⟨⟨_, rfl, rfl⟩, hz _ (Or.inr ⟨rfl, fun ⟨i, h1, h2⟩ => hall i h1 h2⟩)⟩
  | succ m ih =>
    intro k hk hall
    have hlt : nI k < nI n := nI_lt (by omega) (by omega)
    have next : ¬ (¬ nI k = c ∧ S.2 13 k = x) → z_Run (d + 1) 73 (z_own 0) z_m5.2.1 z_m5.2.2.1 none (fun v h' => z_nar z_m5.2.2.2.1 v ∧ Z v h') 2 [(0, z_p 9), (1, .inl x), (2, .inl c), (3, .inl (nI k + 1))] [] (z_H S) := by
      intro hno
      have := ih (k + 1) (by omega) (fun i hi => by
        by_cases he : i = k
        · subst he; exact hno
        · exact hall i (by omega))
      rw [nI_succ] at this
      exact this
    refine z_Run_of z_tk5 [(2, [0, 1, 2, 3])] 60 (fun C K R hC hK hR => ?_)
    refine And.intro (fun q => absurd q (by rw [hc]; grind)) (fun q => ?_)
    refine And.intro (fun e => hK _ _ _ _ (next (fun g => g.1 e))) (fun e => ?_)
    refine And.intro (vp_in_nI (by omega) (by omega)) ?_
    refine And.intro (fun e2 => hK _ _ _ _ (next (fun g => e2 (by rw [nI_clamp (by omega)]; exact g.2)))) (fun e2 => ?_)
    rw [nI_clamp (by omega)] at e2
    exact hR _ _ ⟨⟨_, rfl, rfl⟩, hz _ (Or.inl ⟨rfl, k, by omega, e, e2⟩)⟩
theorem s_B1_isTakenByOther {d n : Nat} {S : z_S} {Z : z_Zt} {x c : Int32} (hc : S.1 7 = nI n) (hn : n ≤ 5) (hz : ∀ r : Int32, z_b r (∃ i, i < n ∧ ¬ nI i = c ∧ S.2 13 i = x) → Z (some (.inl r)) (z_H S)) : z_EvM (d + 1) 73 5 [z_p 9, .inl x, .inl c] (z_H S) Z := by
  refine z_go (c := 0) (t := z_t5) rfl rfl rfl z_tk5 [(2, [0, 1, 2, 3])] 60 (fun C K R hC hK hR => ?_)
  exact hK _ _ _ _ (l_B1_isTakenByOther hc hn hz n 0 (by omega) (fun i hi => by omega))
theorem s_B1_isTaken {d n : Nat} {S : z_S} {Z : z_Zt} {x : Int32} (hc : S.1 7 = nI n) (hn : n ≤ 5) (hz : ∀ r : Int32, z_b r (∃ i, i < n ∧ S.2 13 i = x) → Z (some (.inl r)) (z_H S)) : z_EvM (d + 2) 73 4 [z_p 9, .inl x] (z_H S) Z := by
  refine z_go (c := 0) (t := z_t4) rfl rfl rfl z_tk4 [] 60 (fun C K R hC hK hR => ?_)
  conv => whnf
  refine hC _ _ _ _ (s_B1_isTakenByOther hc hn (fun r hr => ?_))
  have hr2 : z_b r (∃ i, i < n ∧ S.2 13 i = x) := by
    rcases hr with ⟨h1, i, h2, h3, h4⟩ | ⟨h1, h2⟩
    · exact Or.inl ⟨h1, i, h2, h4⟩
    · refine Or.inr ⟨h1, fun ⟨i, h3, h4⟩ => h2 ⟨i, h3, ?_, h4⟩⟩
      have : (0 : Int32) ≤ nI i := nI_pos' (by omega)
      grind
  refine hR _ _ ⟨_, rfl, ?_⟩ (hz _ hr2)
  rcases hr with ⟨h1, -⟩ | ⟨h1, -⟩ <;> rw [h1] <;> rfl
