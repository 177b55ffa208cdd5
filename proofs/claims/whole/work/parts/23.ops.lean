/-! judge; what becomes of a copy; image, on -/
def jdF (row fe : Nat → Int32) (e : Int32) : Nat → Nat → Int32
  | 0, _ => e
  | m + 1, k => if row k - 7 = fe k then jdF row fe e m (k + 1) else nI k
def jdE (w n : Nat) : Int32 := if w = n then -9 else if w < n then nI w else nI n
set_option maxRecDepth 20000 in
theorem l_X_lookAtRow {d n w : Nat} {S : z_S} {Z : z_Zt} (hc : S.1 3 = nI n) (hn : n ≤ 5) (hw : S.1 37 = nI w) (hw5 : w ≤ 5) : ∀ m k, (w < n → k + m = w) → (¬ w < n → k + m = n) → Z (some (.inl (jdF (S.2 57) (S.2 8) (jdE w n) m k))) (z_H S) → z_Run (d + 1) 73 (z_own 7) z_m100.2.1 z_m100.2.2.1 none (fun v h' => z_nar z_m100.2.2.2.1 v ∧ Z v h') 2 [(0, z_p 0), (1, .inl (nI k))] [] (z_H S) := by
  intro m
  induction m with
  | zero =>
    intro k h1 h2 hz
    have tail : z_Run (d + 1) 73 (z_own 7) z_m100.2.1 z_m100.2.2.1 none (fun v h' => z_nar z_m100.2.2.2.1 v ∧ Z v h') 50 [(0, z_p 0)] [] (z_H S) := by
      refine z_Run_of z_tk100 [] 60 (fun C K R hC hK hR => ?_)
      have hz' : Z (some (.inl (jdE w n))) (z_H S) := hz
      refine And.intro (fun q => ?_) (fun q => ?_)
      · have q : ¬ S.1 37 = S.1 3 := q
        rw [hw, hc] at q
        have hne : ¬ w = n := fun z => q (by rw [z])
        refine hR _ _ ⟨⟨_, rfl, rfl⟩, ?_⟩
        have e : jdE w n = (if S.1 3 < S.1 37 then S.1 3 else S.1 37) := by
          unfold jdE
          rw [if_neg hne, hw, hc]
          by_cases h : w < n
          · rw [if_pos h, if_neg (nI_nlt (by omega) (by omega))]
          · rw [if_neg h, if_pos (nI_lt (by omega) (by omega))]
        rw [e] at hz'
        exact hz'
      · have q : S.1 37 = S.1 3 := q
        rw [hw, hc] at q
        have hne : w = n := (nI_eq (by omega) (by omega)).mp q
        refine hR _ _ ⟨⟨_, rfl, rfl⟩, ?_⟩
        unfold jdE at hz'
        rw [if_pos hne] at hz'
        exact hz'
    refine z_Run_of z_tk100 [(50, [0])] 60 (fun C K R hC hK hR => ?_)
    refine And.intro (fun q => hK _ _ _ _ tail) (fun q => ?_)
    refine And.intro (fun q2 => hK _ _ _ _ tail) (fun q2 => ?_)
    exfalso
    have q : ¬ S.1 37 ≤ nI k := q
    have q2 : ¬ S.1 3 ≤ nI k := q2
    rw [hw] at q
    rw [hc] at q2
    by_cases h : w < n
    · exact q (nI_le (by have := h1 h; omega) (by have := h1 h; omega))
    · exact q2 (nI_le (by have := h2 h; omega) (by have := h2 h; omega))
  | succ m ih =>
    intro k h1 h2 hz
    have hkw : k < w := by omega
    have hkn : k < n := by omega
    have hin : vp_in (nI k) 5 := vp_in_nI (by omega) (by omega)
    have hcl : (nI k).toNatClampNeg = k := nI_clamp (by omega)
    refine z_Run_of z_tk100 [(2, [0, 1])] 60 (fun C K R hC hK hR => ?_)
    refine And.intro (fun q => absurd (show S.1 37 ≤ nI k from q) (by rw [hw]; exact nI_ge (by omega) (by omega))) (fun q => ?_)
    refine And.intro (fun q => absurd (show S.1 3 ≤ nI k from q) (by rw [hc]; exact nI_ge (by omega) (by omega))) (fun q => ?_)
    refine And.intro hin (And.intro hin ?_)
    refine And.intro (fun e => ?_) (fun e => ?_)
    · have e : S.2 57 (nI k).toNatClampNeg - 7 = S.2 8 (nI k).toNatClampNeg := e
      rw [hcl] at e
      rw [jdF, if_pos e] at hz
      have := ih (k + 1) (fun h => by have := h1 h; omega) (fun h => by have := h2 h; omega) hz
      rw [nI_succ] at this
      exact hK _ _ _ _ this
    · have e : ¬ S.2 57 (nI k).toNatClampNeg - 7 = S.2 8 (nI k).toNatClampNeg := e
      rw [hcl] at e
      rw [jdF, if_neg e] at hz
      exact hR _ _ ⟨⟨_, rfl, rfl⟩, hz⟩
def jdM (w n : Nat) : Nat := if w < n then w else n
set_option maxRecDepth 20000 in
theorem s_X_lookAtRow {d n w : Nat} {S : z_S} {Z : z_Zt} (hc : S.1 3 = nI n) (hn : n ≤ 5) (hw : S.1 37 = nI w) (hw5 : w ≤ 5) (hz : Z (some (.inl (jdF (S.2 57) (S.2 8) (jdE w n) (jdM w n) 0))) (z_H S)) : z_EvM (d + 1) 73 100 [z_p 0] (z_H S) Z := by
  refine z_go (c := 7) (t := z_t100) rfl rfl rfl z_tk100 [(2, [0, 1])] 60 (fun C K R hC hK hR => ?_)
  exact hK _ _ _ _ (l_X_lookAtRow hc hn hw hw5 (jdM w n) 0 (fun h => by rw [jdM, if_pos h]; omega) (fun h => by rw [jdM, if_neg h]; omega) hz)
set_option maxRecDepth 20000 in
theorem l_M_judge {d n w : Nat} {S D : z_S} {Z : z_Zt} (hD : z_Rl (S.2 61) D) (hc : D.1 3 = nI n) (hn : n ≤ 5) (hw5 : w ≤ 5) : ∀ m k, (w < n → k + m = w) → (¬ w < n → k + m = n) → Z (some (.inl (jdF (S.2 72) (D.2 3) (jdE w n) m k))) (z_H S) → z_Run (d + 3) 73 (z_own 8) z_m182.2.1 z_m182.2.2.1 none (fun v h' => z_nar z_m182.2.2.2.1 v ∧ Z v h') 12 [(0, z_p 59), (1, .inl (nI w)), (2, .inl (nI k))] [] (z_H S) := by
  have hs3 : S.2 61 3 = nI n := (hD.1 3 (by omega)).trans hc
  intro m
  induction m with
  | zero =>
    intro k h1 h2 hz
    have hz' : Z (some (.inl (jdE w n))) (z_H S) := hz
    unfold jdE at hz'
    refine z_Run_of z_tk182 [] 60 (fun C K R hC hK hR => ?_)
    refine And.intro (fun q => ?_) (fun q => ?_)
    · refine And.intro (vp_in_iff.mpr (by decide)) ?_
      refine And.intro (fun q2 => ?_) (fun q2 => ?_)
      · have q2 : S.2 61 3 ≤ nI w := q2
        rw [hs3] at q2
        have h3 : n ≤ w := (nI_leI (by omega) (by omega)).mp q2
        have h4 : w = n := by
          have q : nI w ≤ nI k := q
          have h5 : w ≤ k := (nI_leI (by omega) (by omega)).mp q
          have := h2 (by omega)
          omega
        rw [if_pos h4] at hz'
        exact hR _ _ ⟨⟨_, rfl, rfl⟩, hz'⟩
      · have q2 : ¬ S.2 61 3 ≤ nI w := q2
        rw [hs3] at q2
        have h3 : w < n := by
          by_cases h : w < n
          · exact h
          · exact absurd (nI_le (by omega) (by omega)) q2
        rw [if_neg (by omega), if_pos h3] at hz'
        exact hR _ _ ⟨⟨_, rfl, rfl⟩, hz'⟩
    · have q : ¬ nI w ≤ nI k := q
      have h3 : ¬ w < n := fun h => q (nI_le (by have := h1 h; omega) (by have := h1 h; omega))
      have hk : k = n := by have := h2 h3; omega
      subst hk
      have h4 : ¬ w = k := fun h => q (by rw [h]; exact nI_le (by omega) (by omega))
      rw [if_neg h4, if_neg h3] at hz'
      refine And.intro (vp_in_iff.mpr (by decide)) ?_
      refine And.intro (fun q2 => ?_) (fun q2 => absurd hs3.symm q2)
      exact hR _ _ ⟨⟨_, rfl, rfl⟩, hz'⟩
  | succ m ih =>
    intro k h1 h2 hz
    have hkw : k < w := by omega
    have hkn : k < n := by omega
    have hin : vp_in (nI k) 5 := vp_in_nI (by omega) (by omega)
    have hcl : (nI k).toNatClampNeg = k := nI_clamp (by omega)
    refine z_Run_of z_tk182 [(12, [0, 1, 2])] 60 (fun C K R hC hK hR => ?_)
    refine And.intro (fun q => absurd q (nI_ge hkw (by omega))) (fun q => ?_)
    refine And.intro (vp_in_iff.mpr (by decide)) ?_
    refine And.intro (fun q2 => ?_) (fun q2 => ?_)
    · have q2 : nI k = S.2 61 3 := q2
      rw [hs3] at q2
      have := (nI_eq (by omega) (by omega)).mp q2
      omega
    · refine And.intro hin ?_
      conv => whnf
      refine hC _ _ _ _ (s_M_seatN hD (by omega) ?_)
      refine And.intro (fun e => ?_) (fun e => ?_)
      · have e : S.2 72 (nI k).toNatClampNeg = 7 + D.2 3 k := e
        rw [hcl] at e
        rw [jdF, if_pos (by rw [e]; grind)] at hz
        have := ih (k + 1) (fun h => by have := h1 h; omega) (fun h => by have := h2 h; omega) hz
        rw [nI_succ] at this
        exact hK _ _ _ _ this
      · have e : ¬ S.2 72 (nI k).toNatClampNeg = 7 + D.2 3 k := e
        rw [hcl] at e
        rw [jdF, if_neg (fun z => e (by rw [← z]; grind))] at hz
        exact hR _ _ ⟨⟨_, rfl, rfl⟩, hz⟩
set_option maxRecDepth 20000 in
theorem s_M_judge {d n w : Nat} {S D : z_S} {Z : z_Zt} (hD : z_Rl (S.2 61) D) (hc : D.1 3 = nI n) (hn : n ≤ 5) (hw : S.1 48 = nI w) (hw5 : w ≤ 5) (hz : Z (some (.inl (jdF (S.2 72) (D.2 3) (jdE w n) (jdM w n) 0))) (z_H (z_u S 48 0))) : z_EvM (d + 3) 73 182 [z_p 59] (z_H S) Z := by
  refine z_go (c := 8) (t := z_t182) rfl rfl rfl z_tk182 [(12, [0, 1, 2])] 60 (fun C K R hC hK hR => ?_)
  refine hK _ _ _ _ ?_
  have := l_M_judge (d := d) (S := z_u S 48 0) (D := D) (Z := Z) hD hc hn hw5 (jdM w n) 0 (fun h => by rw [jdM, if_pos h]; omega) (fun h => by rw [jdM, if_neg h]; omega) hz
  rw [← hw] at this
  exact this
theorem jdF_eq {row row' fe : Nat → Int32} {e : Int32} {w : Nat} (h : ∀ i, i < w → row i = row' i) : ∀ m k, k + m ≤ w → jdF row fe e m k = jdF row' fe e m k := by
  intro m
  induction m with
  | zero => intro k hk; rfl
  | succ m ih =>
    intro k hk
    rw [jdF, jdF, h k (by omega), ih (k + 1) (by omega)]
set_option maxRecDepth 20000 in
theorem op_judge : z_op 93 182 [] := by
  intro S hI Z hz
  obtain ⟨n, g, u, t, w, hok, hRl, him, htx, ⟨hw5, hw1, hw2, hw3⟩, hrf, hpl⟩ := id hI
  obtain ⟨⟨hn, hc⟩, -⟩ := id hok
  refine z_go (c := 7) (t := z_t93) rfl rfl rfl z_tk93 [] 100 (fun C K R hC hK hR => ?_)
  conv => whnf
  refine hC _ _ _ _ (s_X_lookAtRow hc hn hw1 hw5 ?_)
  refine hR _ _ ⟨_, rfl, rfl⟩ (hz _ (z_u S 37 0) (fun Z2 hz2 => ?_))
  refine s_M_judge (S := z_u S 37 0) (D := dN S) hRl hc hn hw2 hw5 (hz2 _ _ ?_ ⟨n, g, u, t, 0, hok, hRl, him, htx, ⟨by omega, rfl, rfl, fun i hi => absurd hi (by omega)⟩, hrf, hpl⟩)
  show jdF (S.2 72) (S.2 8) (jdE w n) (jdM w n) 0 = jdF (S.2 57) (S.2 8) (jdE w n) (jdM w n) 0
  refine (jdF_eq hw3 (jdM w n) 0 ?_).symm
  rw [jdM]
  split <;> omega
