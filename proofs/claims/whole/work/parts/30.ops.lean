/-! highest, rules -/
theorem used_iff {c : Nat} {a : Nat → Int32} {x : Int32} : usedF c a x = true ↔ ∃ i, i < c ∧ a i = x := by
  unfold usedF
  rw [List.any_eq_true]
  constructor
  · intro h
    obtain ⟨i, hi, e⟩ := h
    exact ⟨i, List.mem_range.mp hi, of_decide_eq_true e⟩
  · intro h
    obtain ⟨i, hi, e⟩ := h
    exact ⟨i, List.mem_range.mpr hi, decide_eq_true e⟩
theorem used_no {c : Nat} {a : Nat → Int32} {x : Int32} (h : ¬ ∃ i, i < c ∧ a i = x) : usedF c a x = false := by
  cases q : usedF c a x
  · rfl
  · exact absurd (used_iff.mp q) h
theorem used_nf {c : Nat} {a : Nat → Int32} {x : Int32} (h : usedF c a x = false) : ¬ ∃ i, i < c ∧ a i = x := by
  intro z
  rw [used_iff.mpr z] at h
  cases h
def hiF (notch sat : Int32) (n : Nat) (fe : Nat → Int32) (L : Nat) : Nat → Nat → Int32 → Int32 → Int32
  | 0, _, b, _ => b
  | m + 1, s, b, far => if opp (armF notch (seatF L s)) sat ∧ usedF n fe (seatF L s) = false ∧ far < absF (armF notch (seatF L s)) then hiF notch sat n fe L m (s + 1) (7 + seatF L s) (absF (armF notch (seatF L s))) else hiF notch sat n fe L m (s + 1) b far
theorem seat_eq {L s : Nat} (hL : L ≤ 6) (hs : s ≤ 20) : (if nI s < nI L then nI s - nI L else nI s - nI L + 1) = seatF L s := by
  unfold seatF
  by_cases h : s < L
  · rw [if_pos h, if_pos (nI_lt h (by omega))]
  · rw [if_neg h, if_neg (nI_nlt (by omega) (by omega))]
theorem twoL {L : Nat} : (2 : Int32) * nI L = nI (2 * L) := nI_mul 2 L
set_option maxRecDepth 20000 in
theorem l_X_highest {d n L : Nat} {S : z_S} {Z : z_Zt} {sat : Int32} (hc : S.1 3 = nI n) (hn : n ≤ 5) (hL : S.1 0 = nI L) (hL6 : L ≤ 6) : ∀ m s b far, s + m = 2 * L → Z (some (.inl (hiF (S.1 2) sat n (S.2 8) L m s b far))) (z_H S) → z_Run (d + 3) 73 (z_own 7) z_m86.2.1 z_m86.2.2.1 none (fun v h' => z_nar z_m86.2.2.2.1 v ∧ Z v h') 61 [(0, z_p 0), (2, .inl sat), (3, .inl b), (4, .inl far), (5, .inl (nI s))] [] (z_H S) := by
  have h2L : 2 * S.1 0 = nI (2 * L) := by rw [hL, twoL]
  intro m
  induction m with
  | zero =>
    intro s b far hs hz
    have hs : s = 2 * L := by omega
    subst hs
    refine z_Run_of z_tk86 [] 60 (fun C K R hC hK hR => ?_)
    conv => whnf
    refine hC _ _ _ _ (s_B0_seatsMany (fun r hr => ?_))
    rw [h2L] at hr
    refine And.intro (fun q => ?_) (fun q => absurd (show r ≤ nI (2 * L) by rw [hr]; exact nI_le (by omega) (by omega)) q)
    exact hR _ _ ⟨⟨_, rfl, rfl⟩, hz⟩
  | succ m ih =>
    intro s b far hs hz
    refine z_Run_of z_tk86 [(61, [0, 2, 3, 4, 5])] 60 (fun C K R hC hK hR => ?_)
    conv => whnf
    refine hC _ _ _ _ (s_B0_seatsMany (fun r hr => ?_))
    rw [h2L] at hr
    refine And.intro (fun q => absurd q (by rw [hr]; exact nI_ge (by omega) (by omega))) (fun q => ?_)
    conv => whnf
    refine hC _ _ _ _ (s_B0_seatFromLeft (fun r2 hr2 => ?_))
    have e2 : r2 = seatF L s := by rw [hr2, hL]; exact seat_eq hL6 (by omega)
    subst e2
    conv => whnf
    refine hC _ _ _ _ (s_B0_armOf (fun r3 hr3 => ?_))
    subst hr3
    conv => whnf
    refine hC _ _ _ _ (s_X_areOpposite (h := z_H S) (fun r4 hr4 => ?_))
    have hr4 : z_b r4 (opp (armF (S.1 2) (seatF L s)) sat) := zb_if hr4
    have nxt : ¬ (opp (armF (S.1 2) (seatF L s)) sat ∧ usedF n (S.2 8) (seatF L s) = false ∧ far < absF (armF (S.1 2) (seatF L s))) → z_Run (d + 3) 73 (z_own 7) z_m86.2.1 z_m86.2.2.1 none (fun v h' => z_nar z_m86.2.2.2.1 v ∧ Z v h') 61 [(0, z_p 0), (2, .inl sat), (3, .inl b), (4, .inl far), (5, .inl (nI s + 1))] [] (z_H S) := by
      intro h
      rw [hiF, if_neg h] at hz
      have := ih (s + 1) b far (by omega) hz
      rw [nI_succ] at this
      exact this
    refine And.intro (fun e4 => hK _ _ _ _ (nxt (fun z => zb_f hr4 e4 z.1))) (fun e4 => ?_)
    conv => whnf
    refine hC _ _ _ _ (s_B0_isTaken hc hn (fun r5 hr5 => ?_))
    refine And.intro (fun e5 => hK _ _ _ _ (nxt (fun z => used_nf z.2.1 (zb_t hr5 e5)))) (fun e5 => ?_)
    refine And.intro (fun e6 => ?_) (fun e6 => ?_)
    · rw [abs_eq] at e6
      exact hK _ _ _ _ (nxt (fun z => nlt_le e6 z.2.2))
    · rw [abs_eq] at e6
      rw [hiF, if_pos ⟨zb_t hr4 e4, used_no (zb_f hr5 e5), lt_nge e6⟩] at hz
      have := ih (s + 1) _ _ (by omega) hz
      rw [nI_succ, ← abs_eq] at this
      exact hK _ _ _ _ this
theorem sv_all : ∀ L : Fin 7, ∀ p : Fin 14, ((nI L.val < nI p.val - nI L.val) ↔ 2 * L.val < p.val) ∧ ((nI p.val - nI L.val = 0) ↔ p.val = L.val) := by decide +kernel
theorem sv {L p : Nat} (hL : L ≤ 6) (hp : p ≤ 13) : ((nI L < nI p - nI L) ↔ 2 * L < p) ∧ ((nI p - nI L = 0) ↔ p = L) := sv_all ⟨L, by omega⟩ ⟨p, by omega⟩
theorem sv_lt {L p : Nat} (h : p < L) : nI p - nI L = seatF L p := by
  unfold seatF
  rw [if_pos h]
theorem sv_gt {L p : Nat} (h : L < p) : nI p - nI L = seatF L (p - 1) := by
  obtain ⟨q, rfl⟩ : ∃ q, p = q + 1 := ⟨p - 1, by omega⟩
  unfold seatF
  rw [if_neg (by omega), nI_succ, Nat.add_sub_cancel]
  grind
theorem sv_in_all : ∀ L : Fin 7, ∀ s : Fin 13, s.val < 2 * L.val → (-6 ≤ seatF L.val s.val ∧ seatF L.val s.val ≤ 6 ∧ ¬ seatF L.val s.val = 0) := by decide +kernel
theorem sv_in {L s : Nat} (hL : L ≤ 6) (hs : s < 2 * L) : -6 ≤ seatF L s ∧ seatF L s ≤ 6 ∧ ¬ seatF L s = 0 := sv_in_all ⟨L, by omega⟩ ⟨s, by omega⟩ hs
section
variable {d n L i : Nat} {S D : z_S} {Z : z_Zt}
set_option maxRecDepth 20000 in
theorem r_M_hiStep {x x' b far : Int32} (hD : z_Rl (S.2 61) D) (hc : D.1 3 = nI n) (hn : n ≤ 5) (hL : D.1 0 = nI L) (hi : i < n) (hx0 : ¬ x = 0) (hxL : ¬ nI L < x) (hA : -20 ≤ armF (D.1 2) x ∧ armF (D.1 2) x ≤ 20) (hB : -20 ≤ armF (D.1 2) (D.2 3 i) ∧ armF (D.1 2) (D.2 3 i) ≤ 20) (hx' : x + 1 = x')
    (h1 : opp (armF (D.1 2) x) (armF (D.1 2) (D.2 3 i)) ∧ usedF n (D.2 3) x = false ∧ far < absF (armF (D.1 2) x) → z_Run (d + 4) 73 (z_own 8) z_m172.2.1 z_m172.2.2.1 none (fun v h' => z_nar z_m172.2.2.2.1 v ∧ Z v h') 52 [(0, z_p 59), (1, .inl (nI i)), (3, .inl (7 + x)), (4, .inl (absF (armF (D.1 2) x))), (5, .inl x')] [] (z_H S))
    (h2 : ¬ (opp (armF (D.1 2) x) (armF (D.1 2) (D.2 3 i)) ∧ usedF n (D.2 3) x = false ∧ far < absF (armF (D.1 2) x)) → z_Run (d + 4) 73 (z_own 8) z_m172.2.1 z_m172.2.2.1 none (fun v h' => z_nar z_m172.2.2.2.1 v ∧ Z v h') 52 [(0, z_p 59), (1, .inl (nI i)), (3, .inl b), (4, .inl far), (5, .inl x')] [] (z_H S)) : z_Run (d + 4) 73 (z_own 8) z_m172.2.1 z_m172.2.2.1 none (fun v h' => z_nar z_m172.2.2.2.1 v ∧ Z v h') 52 [(0, z_p 59), (1, .inl (nI i)), (3, .inl b), (4, .inl far), (5, .inl x)] [] (z_H S) := by
  subst hx'
  have hs0 : S.2 61 0 = nI L := (hD.1 0 (by omega)).trans hL
  have hm := mneg hA.1 hA.2 hB.1 hB.2
  refine z_Run_of z_tk172 [(52, [0, 1, 3, 4, 5])] 60 (fun C K R hC hK hR => ?_)
  refine And.intro (vp_in_iff.mpr (by decide)) ?_
  refine And.intro (fun q => absurd (show S.2 61 0 < x from q) (by rw [hs0]; exact hxL)) (fun q => ?_)
  refine And.intro (fun q => absurd q hx0) (fun q => ?_)
  conv => whnf
  refine hC _ _ _ _ (s_M_whoP hD hc hn hx0 (fun r1 hr1 => ?_))
  refine And.intro (fun e1 => ?_) (fun e1 => ?_)
  · refine And.intro (fun _ => ?_) (fun e => absurd rfl e)
    refine hK _ _ _ _ (h2 (fun z => ?_))
    rcases hr1 with ⟨j, hj, -, -, hfj, -⟩ | ⟨-, h0, -⟩
    · exact used_nf z.2.1 ⟨j, hj, hfj⟩
    · exact absurd h0 (nlt_le e1)
  · have hfr : usedF n (D.2 3) x = false := by
      rcases hr1 with ⟨j, hj, -, h0, -⟩ | ⟨-, -, h3⟩
      · exact absurd (lt_nge e1) h0
      · exact used_no (fun ⟨j, hj, hfj⟩ => h3 j hj hfj)
    conv => whnf
    refine hC _ _ _ _ (s_M_armN hD ?_)
    conv => whnf
    refine hC _ _ _ _ (s_M_seatN hD (by omega) ?_)
    conv => whnf
    refine hC _ _ _ _ (s_M_armN hD ?_)
    refine And.intro (fun e2 => ?_) (fun e2 => ?_)
    · refine And.intro (fun _ => ?_) (fun e => absurd rfl e)
      exact hK _ _ _ _ (h2 (fun z => nlt_le e2 (hm.mpr z.1)))
    · refine And.intro (fun e => absurd e (by decide)) (fun _ => ?_)
      conv => whnf
      refine hC _ _ _ _ (s_M_armN hD ?_)
      conv => whnf
      refine hC _ _ _ _ (s_M_amount (h := z_H S) (fun r5 hr5 => ?_))
      have e5 : r5 = absF (armF (D.1 2) x) := hr5
      subst e5
      refine And.intro (fun e3 => ?_) (fun e3 => ?_)
      · conv => whnf
        refine hC _ _ _ _ (s_M_armN hD ?_)
        conv => whnf
        refine hC _ _ _ _ (s_M_amount (h := z_H S) (fun r6 hr6 => ?_))
        have e6 : r6 = absF (armF (D.1 2) x) := hr6
        subst e6
        have e7 : 7 + x = x + 7 := by grind
        have h1 := h1 ⟨hm.mp (lt_nge e2), hfr, e3⟩
        rw [e7] at h1
        exact hK _ _ _ _ h1
      · exact hK _ _ _ _ (h2 (fun z => e3 z.2.2))
set_option maxRecDepth 20000 in
theorem l_M_highest2 (hD : z_Rl (S.2 61) D) (hc : D.1 3 = nI n) (hn : n ≤ 5) (hL : D.1 0 = nI L) (hL6 : L ≤ 6) (hv : 0 ≤ D.1 2 ∧ D.1 2 ≤ 4) (hi : i < n) (hB : -20 ≤ armF (D.1 2) (D.2 3 i) ∧ armF (D.1 2) (D.2 3 i) ≤ 20) : ∀ m p b far, p + m = 2 * L + 1 → L < p → Z (some (.inl (hiF (D.1 2) (armF (D.1 2) (D.2 3 i)) n (D.2 3) L m (p - 1) b far))) (z_H S) → z_Run (d + 4) 73 (z_own 8) z_m172.2.1 z_m172.2.2.1 none (fun v h' => z_nar z_m172.2.2.2.1 v ∧ Z v h') 52 [(0, z_p 59), (1, .inl (nI i)), (3, .inl b), (4, .inl far), (5, .inl (nI p - nI L))] [] (z_H S) := by
  have hs0 : S.2 61 0 = nI L := (hD.1 0 (by omega)).trans hL
  intro m
  induction m with
  | zero =>
    intro p b far hp hlp hz
    refine z_Run_of z_tk172 [] 60 (fun C K R hC hK hR => ?_)
    refine And.intro (vp_in_iff.mpr (by decide)) ?_
    refine And.intro (fun q => ?_) (fun q => absurd (show S.2 61 0 < nI p - nI L by rw [hs0]; exact (sv hL6 (by omega)).1.mpr (by omega)) q)
    exact hR _ _ ⟨⟨_, rfl, rfl⟩, hz⟩
  | succ m ih =>
    intro p b far hp hlp hz
    have ex := sv_gt hlp
    have six := sv_in (s := p - 1) hL6 (by omega)
    have enx : nI p - nI L + 1 = nI (p + 1) - nI L := by rw [nI_succ]; grind
    have e1 : p + 1 - 1 = (p - 1) + 1 := by omega
    have hno : ¬ nI L < nI p - nI L := fun z => by have := (sv hL6 (by omega)).1.mp z; omega
    refine r_M_hiStep hD hc hn hL hi (by rw [ex]; exact six.2.2) hno (by rw [ex]; exact arm_in hv.1 hv.2 six.1 six.2.1) hB enx (fun h => ?_) (fun h => ?_)
    · rw [ex] at h ⊢
      rw [hiF, if_pos h, ← e1] at hz
      exact ih (p + 1) _ _ (by omega) (by omega) hz
    · rw [ex] at h
      rw [hiF, if_neg h, ← e1] at hz
      exact ih (p + 1) _ _ (by omega) (by omega) hz
set_option maxRecDepth 20000 in
theorem l_M_highest1 (hD : z_Rl (S.2 61) D) (hc : D.1 3 = nI n) (hn : n ≤ 5) (hL : D.1 0 = nI L) (hL6 : L ≤ 6) (hv : 0 ≤ D.1 2 ∧ D.1 2 ≤ 4) (hi : i < n) (hB : -20 ≤ armF (D.1 2) (D.2 3 i) ∧ armF (D.1 2) (D.2 3 i) ≤ 20) : ∀ m p b far, p + m = L → Z (some (.inl (hiF (D.1 2) (armF (D.1 2) (D.2 3 i)) n (D.2 3) L (m + L) p b far))) (z_H S) → z_Run (d + 4) 73 (z_own 8) z_m172.2.1 z_m172.2.2.1 none (fun v h' => z_nar z_m172.2.2.2.1 v ∧ Z v h') 52 [(0, z_p 59), (1, .inl (nI i)), (3, .inl b), (4, .inl far), (5, .inl (nI p - nI L))] [] (z_H S) := by
  have hs0 : S.2 61 0 = nI L := (hD.1 0 (by omega)).trans hL
  intro m
  induction m with
  | zero =>
    intro p b far hp hz
    have hp : p = L := by omega
    subst hp
    have enx : nI p - nI p + 1 = nI (p + 1) - nI p := by rw [nI_succ]; grind
    have e0 : nI p - nI p = 0 := by grind
    refine z_Run_of z_tk172 [(52, [0, 1, 3, 4, 5])] 60 (fun C K R hC hK hR => ?_)
    refine And.intro (vp_in_iff.mpr (by decide)) ?_
    refine And.intro (fun q => absurd (show S.2 61 0 < nI p - nI p from q) (by rw [hs0]; exact fun z => by have := (sv hL6 (by omega)).1.mp z; omega)) (fun q => ?_)
    refine And.intro (fun _ => ?_) (fun e => absurd e0 e)
    refine And.intro (fun _ => ?_) (fun e => absurd rfl e)
    rw [Nat.zero_add] at hz
    have := l_M_highest2 (d := d) (Z := Z) hD hc hn hL hL6 hv hi hB p (p + 1) b far (by omega) (by omega) hz
    rw [← enx] at this
    exact hK _ _ _ _ this
  | succ m ih =>
    intro p b far hp hz
    have ex := sv_lt (L := L) (p := p) (by omega)
    have six := sv_in (s := p) hL6 (by omega)
    have enx : nI p - nI L + 1 = nI (p + 1) - nI L := by rw [nI_succ]; grind
    have hno : ¬ nI L < nI p - nI L := fun z => by have := (sv hL6 (by omega)).1.mp z; omega
    rw [Nat.add_right_comm] at hz
    refine r_M_hiStep hD hc hn hL hi (by rw [ex]; exact six.2.2) hno (by rw [ex]; exact arm_in hv.1 hv.2 six.1 six.2.1) hB enx (fun h => ?_) (fun h => ?_)
    · rw [ex] at h ⊢
      rw [hiF, if_pos h] at hz
      exact ih (p + 1) _ _ (by omega) hz
    · rw [ex] at h
      rw [hiF, if_neg h] at hz
      exact ih (p + 1) _ _ (by omega) hz
set_option maxRecDepth 20000 in
theorem s_M_highestOk (hD : z_Rl (S.2 61) D) (hc : D.1 3 = nI n) (hn : n ≤ 5) (hL : D.1 0 = nI L) (hL6 : L ≤ 6) (hv : 0 ≤ D.1 2 ∧ D.1 2 ≤ 4) (hi : i < n) (hs : ¬ D.2 3 i = 0) (hB : -20 ≤ armF (D.1 2) (D.2 3 i) ∧ armF (D.1 2) (D.2 3 i) ≤ 20) (hz : Z (some (.inl (hiF (D.1 2) (armF (D.1 2) (D.2 3 i)) n (D.2 3) L (L + L) 0 (-9) 0))) (z_H S)) : z_EvM (d + 4) 73 172 [z_p 59, .inl (nI i)] (z_H S) Z := by
  have hs0 : S.2 61 0 = nI L := (hD.1 0 (by omega)).trans hL
  refine z_go (c := 8) (t := z_t172) rfl rfl rfl z_tk172 [(52, [0, 1, 3, 4, 5])] 60 (fun C K R hC hK hR => ?_)
  conv => whnf
  refine hC _ _ _ _ (s_M_isKidP hD hc hn (fun r1 hr1 => ?_))
  refine And.intro (fun _ => ?_) (fun e => absurd ⟨i, hi, rfl⟩ (zb_f hr1 e))
  conv => whnf
  refine hC _ _ _ _ (s_M_seatN hD (by omega) ?_)
  refine And.intro (fun _ => ?_) (fun e => absurd e hs)
  refine And.intro (fun _ => ?_) (fun e => absurd rfl e)
  refine And.intro (vp_in_iff.mpr (by decide)) ?_
  have := l_M_highest1 (d := d) (Z := Z) hD hc hn hL hL6 hv hi hB L 0 (-9) 0 (by omega) hz
  have e0 : nI 0 - nI L = -S.2 61 0 := by rw [hs0, nI_0]; grind
  rw [e0] at this
  exact hK _ _ _ _ this
set_option maxRecDepth 20000 in
theorem s_M_highestNo {c : Int32} (hD : z_Rl (S.2 61) D) (hc : D.1 3 = nI n) (hn : n ≤ 5) (hk : ¬ isN c n) (hz : Z (some (.inl (-1))) (z_H (z_rm2 S 1))) : z_EvM (d + 4) 73 172 [z_p 59, .inl c] (z_H S) Z := by
  refine z_go (c := 8) (t := z_t172) rfl rfl rfl z_tk172 [] 100 (fun C K R hC hK hR => ?_)
  conv => whnf
  refine hC _ _ _ _ (s_M_isKidP hD hc hn (fun r1 hr1 => ?_))
  refine And.intro (fun e => absurd (zb_t hr1 e) hk) (fun _ => ?_)
  refine And.intro (fun e => absurd e (by decide)) (fun _ => ?_)
  conv => whnf
  refine hC _ _ _ _ (s_M_refuse (k := 1) (by omega) rfl ?_)
  exact hR _ _ ⟨_, rfl, rfl⟩ hz
set_option maxRecDepth 20000 in
theorem s_M_highestSt (hD : z_Rl (S.2 61) D) (hc : D.1 3 = nI n) (hn : n ≤ 5) (hi : i < n) (hs : D.2 3 i = 0) (hz : Z (some (.inl (-3))) (z_H (z_rm2 S 3))) : z_EvM (d + 4) 73 172 [z_p 59, .inl (nI i)] (z_H S) Z := by
  refine z_go (c := 8) (t := z_t172) rfl rfl rfl z_tk172 [] 100 (fun C K R hC hK hR => ?_)
  conv => whnf
  refine hC _ _ _ _ (s_M_isKidP hD hc hn (fun r1 hr1 => ?_))
  refine And.intro (fun _ => ?_) (fun e => absurd ⟨i, hi, rfl⟩ (zb_f hr1 e))
  conv => whnf
  refine hC _ _ _ _ (s_M_seatN hD (by omega) ?_)
  refine And.intro (fun e => absurd hs e) (fun _ => ?_)
  refine And.intro (fun e => absurd e (by decide)) (fun _ => ?_)
  conv => whnf
  refine hC _ _ _ _ (s_M_refuse (k := 3) (by omega) rfl ?_)
  exact hR _ _ ⟨_, rfl, rfl⟩ hz
end
theorem len_N {x : Int32} (h1 : 1 ≤ x) (h2 : x ≤ 6) : ∃ L, 1 ≤ L ∧ L ≤ 6 ∧ x = nI L := inN (lo := 1) (hi := 6) h1 h2 (by omega) (by omega)
set_option maxRecDepth 20000 in
theorem op_highest (c : Int32) : z_op 86 172 [.inl c] := by
  intro S hI Z hz
  obtain ⟨n, g, u, t, w, hok, hRl, him, htx, hrw, hrf, hpl⟩ := id hI
  obtain ⟨⟨hn, hc⟩, hg, hu, hL, hO, hN, hf, hwe, hdi, hgu⟩ := id hok
  obtain ⟨L, hL1, hL6, hLe⟩ := len_N hL.1 hL.2
  refine z_go (c := 7) (t := z_t86) rfl rfl rfl z_tk86 [(61, [0, 2, 3, 4, 5])] 60 (fun C K R hC hK hR => ?_)
  conv => whnf
  refine hC _ _ _ _ (s_B0_hasChildP hc hn (fun r1 hr1 => ?_))
  refine And.intro (fun e1 => ?_) (fun e1 => ?_)
  · obtain ⟨k, hk, rfl⟩ := zb_t hr1 e1
    have hcl : (nI k).toNatClampNeg = k := nI_clamp (by omega)
    have hin : vp_in (nI k) 5 := vp_in_nI (by omega) (by omega)
    conv => whnf
    refine hC _ _ _ _ (s_B0_sitsP hc hn hk (fun r2 hr2 => ?_))
    refine And.intro (fun e2 => ?_) (fun e2 => ?_)
    · have hs := zb_t hr2 e2
      refine And.intro hin ?_
      conv => whnf
      refine hC _ _ _ _ (s_B0_armOf (fun r3 hr3 => ?_))
      rw [hcl] at hr3
      subst hr3
      refine hK _ _ _ _ ?_
      refine l_X_highest (d := 597) (S := S) hc hn hLe hL6 (L + L) 0 (-9) 0 (by omega) (hz _ S (fun Z2 hz2 => ?_))
      exact s_M_highestOk (D := dN S) hRl hc hn hLe hL6 hN hk hs (arm_in hN.1 hN.2 (hf k hk).1 (hf k hk).2) (hz2 _ S rfl hI)
    · have hs : S.2 8 k = 0 := Decidable.not_not.mp (zb_f hr2 e2)
      conv => whnf
      refine hC _ _ _ _ (s_X_refuse 3 (by omega) rfl ?_)
      refine hR _ _ ⟨_, rfl, rfl⟩ (hz _ (z_rx S 3) (fun Z2 hz2 => ?_))
      exact s_M_highestSt (S := z_rx S 3) (D := dN S) hRl hc hn hk hs (hz2 _ _ rfl (Inv_ref hI (by omega)))
  · have hno := zb_f hr1 e1
    conv => whnf
    refine hC _ _ _ _ (s_X_refuse 1 (by omega) rfl ?_)
    refine hR _ _ ⟨_, rfl, rfl⟩ (hz _ (z_rx S 1) (fun Z2 hz2 => ?_))
    exact s_M_highestNo (S := z_rx S 1) (D := dN S) hRl hc hn hno (hz2 _ _ rfl (Inv_ref hI (by omega)))
