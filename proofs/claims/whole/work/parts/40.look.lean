/-! placings: the class's look -/
def lkS (S : z_S) (a b : Int32) (f : Nat → Int32) (t : Nat → Nat → Int32) : z_S := (fun j => bif Nat.beq j 25 then a else bif Nat.beq j 26 then b else S.1 j, fun q => bif Nat.beq q 44 then f else bif Nat.ble 46 q && Nat.ble q 50 then t (q - 46) else S.2 q)
def tU (t : Nat → Nat → Int32) (i : Nat) (g : Nat → Int32) : Nat → Nat → Int32 := fun j => bif Nat.beq j i then g else t j
theorem tU_s (t : Nat → Nat → Int32) (i : Nat) (g : Nat → Int32) : tU t i g i = g := by
  unfold tU
  rw [Nat.beq_refl]
  rfl
theorem tU_n {t : Nat → Nat → Int32} {i j : Nat} {g : Nat → Int32} (h : ¬ j = i) : tU t i g j = t j := by
  unfold tU
  cases hb : Nat.beq j i
  · rfl
  · exact absurd (Nat.eq_of_beq_eq_true hb) h
def tuN (S : z_S) (c : Nat) (x : Int32) : Int32 := turnF (S.2 5 c) (S.2 6 c) (armF (S.1 2) x)
section
variable {d n L : Nat} {S : z_S} {Z : z_Zt} {a b : Int32}
set_option maxRecDepth 20000 in
theorem r_P_lkCell {i s : Nat} {f : Nat → Int32} {t : Nat → Nat → Int32} (hi : i < 5) (hs : s < 12) (hx : -6 ≤ f s ∧ f s ≤ 6) (hv : 0 ≤ S.1 2 ∧ S.1 2 ≤ 4) (hin : ¬ a ≤ nI i) (next : z_Run (d + 5) 73 (z_own 4) z_m43.2.1 z_m43.2.2.1 none (fun v h' => z_nar z_m43.2.2.2.1 v ∧ Z v h') 47 [(0, z_p 41), (1, z_p 4), (2, .inl (nI s)), (3, .inl (nI i + 1))] [] (z_H (lkS S a b f (tU t i (upd (t i) s (tuN S i (f s))))))) : z_Run (d + 5) 73 (z_own 4) z_m43.2.1 z_m43.2.2.1 none (fun v h' => z_nar z_m43.2.2.2.1 v ∧ Z v h') 47 [(0, z_p 41), (1, z_p 4), (2, .inl (nI s)), (3, .inl (nI i))] [] (z_H (lkS S a b f t)) := by
  have hs12 : vp_in (nI s) 12 := vp_in_nI hs (by omega)
  have hcl : (nI s).toNatClampNeg = s := nI_clamp (by omega)
  refine z_Run_of z_tk43 [(47, [0, 1, 2, 3])] 60 (fun C K R hC hK hR => ?_)
  refine And.intro (fun q => absurd q hin) (fun _ => ?_)
  by_cases h0 : i = 0
  · subst h0
    refine And.intro (vp_in_nI (by omega) (by omega)) ?_
    refine And.intro hs12 ?_
    conv => whnf
    refine hC _ _ _ _ (s_B0_turnOn (S := lkS S a b f t) (k := 0) (by omega) (by rw [hcl]; exact hx) hv (fun r hr => ?_))
    have hr : r = tuN S 0 (f s) := by
      rw [hcl] at hr
      exact hr
    subst hr
    refine And.intro hs12 ?_
    refine hK _ _ _ _ (show z_Run (d + 5) 73 (z_own 4) z_m43.2.1 z_m43.2.2.1 none (fun v h' => z_nar z_m43.2.2.2.1 v ∧ Z v h') 47 [(0, z_p 41), (1, z_p 4), (2, .inl (nI s)), (3, .inl (nI 0 + 1))] [] (z_H (lkS S a b f (tU t 0 (upd (t 0) (nI s).toNatClampNeg (tuN S 0 (f s)))))) from ?_)
    rw [hcl]
    exact next
  by_cases h1 : i = 1
  · subst h1
    refine And.intro (vp_in_nI (by omega) (by omega)) ?_
    refine And.intro hs12 ?_
    conv => whnf
    refine hC _ _ _ _ (s_B0_turnOn (S := lkS S a b f t) (k := 1) (by omega) (by rw [hcl]; exact hx) hv (fun r hr => ?_))
    have hr : r = tuN S 1 (f s) := by
      rw [hcl] at hr
      exact hr
    subst hr
    refine And.intro hs12 ?_
    refine hK _ _ _ _ (show z_Run (d + 5) 73 (z_own 4) z_m43.2.1 z_m43.2.2.1 none (fun v h' => z_nar z_m43.2.2.2.1 v ∧ Z v h') 47 [(0, z_p 41), (1, z_p 4), (2, .inl (nI s)), (3, .inl (nI 1 + 1))] [] (z_H (lkS S a b f (tU t 1 (upd (t 1) (nI s).toNatClampNeg (tuN S 1 (f s)))))) from ?_)
    rw [hcl]
    exact next
  by_cases h2 : i = 2
  · subst h2
    refine And.intro (vp_in_nI (by omega) (by omega)) ?_
    refine And.intro hs12 ?_
    conv => whnf
    refine hC _ _ _ _ (s_B0_turnOn (S := lkS S a b f t) (k := 2) (by omega) (by rw [hcl]; exact hx) hv (fun r hr => ?_))
    have hr : r = tuN S 2 (f s) := by
      rw [hcl] at hr
      exact hr
    subst hr
    refine And.intro hs12 ?_
    refine hK _ _ _ _ (show z_Run (d + 5) 73 (z_own 4) z_m43.2.1 z_m43.2.2.1 none (fun v h' => z_nar z_m43.2.2.2.1 v ∧ Z v h') 47 [(0, z_p 41), (1, z_p 4), (2, .inl (nI s)), (3, .inl (nI 2 + 1))] [] (z_H (lkS S a b f (tU t 2 (upd (t 2) (nI s).toNatClampNeg (tuN S 2 (f s)))))) from ?_)
    rw [hcl]
    exact next
  by_cases h3 : i = 3
  · subst h3
    refine And.intro (vp_in_nI (by omega) (by omega)) ?_
    refine And.intro hs12 ?_
    conv => whnf
    refine hC _ _ _ _ (s_B0_turnOn (S := lkS S a b f t) (k := 3) (by omega) (by rw [hcl]; exact hx) hv (fun r hr => ?_))
    have hr : r = tuN S 3 (f s) := by
      rw [hcl] at hr
      exact hr
    subst hr
    refine And.intro hs12 ?_
    refine hK _ _ _ _ (show z_Run (d + 5) 73 (z_own 4) z_m43.2.1 z_m43.2.2.1 none (fun v h' => z_nar z_m43.2.2.2.1 v ∧ Z v h') 47 [(0, z_p 41), (1, z_p 4), (2, .inl (nI s)), (3, .inl (nI 3 + 1))] [] (z_H (lkS S a b f (tU t 3 (upd (t 3) (nI s).toNatClampNeg (tuN S 3 (f s)))))) from ?_)
    rw [hcl]
    exact next
  by_cases h4 : i = 4
  · subst h4
    refine And.intro (vp_in_nI (by omega) (by omega)) ?_
    refine And.intro hs12 ?_
    conv => whnf
    refine hC _ _ _ _ (s_B0_turnOn (S := lkS S a b f t) (k := 4) (by omega) (by rw [hcl]; exact hx) hv (fun r hr => ?_))
    have hr : r = tuN S 4 (f s) := by
      rw [hcl] at hr
      exact hr
    subst hr
    refine And.intro hs12 ?_
    refine hK _ _ _ _ (show z_Run (d + 5) 73 (z_own 4) z_m43.2.1 z_m43.2.2.1 none (fun v h' => z_nar z_m43.2.2.2.1 v ∧ Z v h') 47 [(0, z_p 41), (1, z_p 4), (2, .inl (nI s)), (3, .inl (nI 4 + 1))] [] (z_H (lkS S a b f (tU t 4 (upd (t 4) (nI s).toNatClampNeg (tuN S 4 (f s)))))) from ?_)
    rw [hcl]
    exact next
  omega
end
section
variable {d n L : Nat} {S : z_S} {Z : z_Zt}
set_option maxRecDepth 20000 in
theorem l_P_lk2 {s : Nat} {b : Int32} {f : Nat → Int32} (hn : n ≤ 5) (hL : L ≤ 6) (hs : s < 2 * L) (hfs : f s = seatF L s) (hv : 0 ≤ S.1 2 ∧ S.1 2 ≤ 4) (next : ∀ t, (∀ j, j < n → ∀ r, r < s + 1 → t j r = tuN S j (seatF L r)) → z_Run (d + 5) 73 (z_own 4) z_m43.2.1 z_m43.2.2.1 none (fun v h' => z_nar z_m43.2.2.2.1 v ∧ Z v h') 80 [(0, z_p 41), (1, z_p 4), (2, .inl (nI s))] [] (z_H (lkS S (nI n) b f t))) : ∀ m i t, i + m = n → (∀ j, j < n → ∀ r, r < s → t j r = tuN S j (seatF L r)) → (∀ j, j < i → t j s = tuN S j (seatF L s)) → z_Run (d + 5) 73 (z_own 4) z_m43.2.1 z_m43.2.2.1 none (fun v h' => z_nar z_m43.2.2.2.1 v ∧ Z v h') 47 [(0, z_p 41), (1, z_p 4), (2, .inl (nI s)), (3, .inl (nI i))] [] (z_H (lkS S (nI n) b f t)) := by
  have six := sv_in hL hs
  intro m
  induction m with
  | zero =>
    intro i t hi h1 h2
    have hi : i = n := by omega
    subst hi
    refine z_Run_of z_tk43 [(80, [0, 1, 2])] 60 (fun C K R hC hK hR => ?_)
    refine And.intro (fun q => ?_) (fun q => absurd (show nI i ≤ nI i from nI_le (Nat.le_refl i) (by omega)) q)
    refine hK _ _ _ _ (next t (fun j hj r hr => ?_))
    by_cases e : r = s
    · subst e; exact h2 j hj
    · exact h1 j hj r (by omega)
  | succ m ih =>
    intro i t hi h1 h2
    refine r_P_lkCell (by omega) (by omega) (by rw [hfs]; exact ⟨six.1, six.2.1⟩) hv (nI_ge (by omega) (by omega)) ?_
    have := ih (i + 1) (tU t i (upd (t i) s (tuN S i (f s)))) (by omega) (fun j hj r hr => ?_) (fun j hj => ?_)
    · rw [nI_succ] at this
      exact this
    · by_cases e : j = i
      · subst e
        rw [tU_s, pk_un (by omega)]
        exact h1 j hj r hr
      · rw [tU_n e]
        exact h1 j hj r hr
    · by_cases e : j = i
      · subst e
        rw [tU_s, pk_us, hfs]
      · rw [tU_n e]
        exact h2 j (by omega)
set_option maxRecDepth 20000 in
theorem l_P_lk {b : Int32} (hb : b = nI (2 * L)) (hn : n ≤ 5) (hL : L ≤ 6) (hLe : S.1 0 = nI L) (hv : 0 ≤ S.1 2 ∧ S.1 2 ≤ 4) (next : ∀ f t, (∀ r, r < 2 * L → f r = seatF L r) → (∀ j, j < n → ∀ r, r < 2 * L → t j r = tuN S j (seatF L r)) → z_Run (d + 5) 73 (z_own 4) z_m43.2.1 z_m43.2.2.1 none (fun v h' => z_nar z_m43.2.2.2.1 v ∧ Z v h') 86 [(0, z_p 41), (1, z_p 4)] [] (z_H (lkS S (nI n) b f t))) : ∀ m s f t, s + m = 2 * L → (∀ r, r < s → f r = seatF L r) → (∀ j, j < n → ∀ r, r < s → t j r = tuN S j (seatF L r)) → z_Run (d + 5) 73 (z_own 4) z_m43.2.1 z_m43.2.2.1 none (fun v h' => z_nar z_m43.2.2.2.1 v ∧ Z v h') 26 [(0, z_p 41), (1, z_p 4), (2, .inl (nI s))] [] (z_H (lkS S (nI n) b f t)) := by
  intro m
  induction m with
  | zero =>
    intro s f t hs hf ht
    have hs : s = 2 * L := by omega
    subst hs
    refine z_Run_of z_tk43 [(86, [0, 1])] 60 (fun C K R hC hK hR => ?_)
    refine And.intro (fun q => hK _ _ _ _ (next f t hf ht)) (fun q => absurd (show b ≤ nI (2 * L) by rw [hb]; exact nI_le (Nat.le_refl _) (by omega)) q)
  | succ m ih =>
    intro s f t hs hf ht
    have hcl : (nI s).toNatClampNeg = s := nI_clamp (by omega)
    have hin : vp_in (nI s) 12 := vp_in_nI (by omega) (by omega)
    refine z_Run_of z_tk43 [(47, [0, 1, 2, 3])] 60 (fun C K R hC hK hR => ?_)
    refine And.intro (fun q => absurd (show b ≤ nI s from q) (by rw [hb]; exact nI_ge (by omega) (by omega))) (fun q => ?_)
    conv => whnf
    refine hC _ _ _ _ (s_B0_seatFromLeft (S := lkS S (nI n) b f t) (fun r hr => ?_))
    have hr : r = seatF L s := by
      rw [hr]
      show (if nI s < S.1 0 then nI s - S.1 0 else nI s - S.1 0 + 1) = seatF L s
      rw [hLe]
      exact seat_eq hL (by omega)
    subst hr
    refine And.intro hin ?_
    refine hK _ _ _ _ (show z_Run (d + 5) 73 (z_own 4) z_m43.2.1 z_m43.2.2.1 none (fun v h' => z_nar z_m43.2.2.2.1 v ∧ Z v h') 47 [(0, z_p 41), (1, z_p 4), (2, .inl (nI s)), (3, .inl (nI 0))] [] (z_H (lkS S (nI n) b (upd f (nI s).toNatClampNeg (seatF L s)) t)) from ?_)
    rw [hcl]
    refine l_P_lk2 hn hL (by omega) pk_us hv (fun t2 ht2 => ?_) n 0 t (by omega) ht (fun j hj => by omega)
    have := ih (s + 1) (upd f s (seatF L s)) t2 (by omega) (fun r hr => by
      by_cases e : r = s
      · subst e; exact pk_us
      · rw [pk_un e]; exact hf r (by omega)) ht2
    rw [nI_succ] at this
    refine z_Run_of z_tk43 [(26, [0, 1, 2])] 60 (fun C K R hC hK hR => ?_)
    exact hK _ _ _ _ this
def plX (S : z_S) (a b : Int32) (f : Nat → Int32) (t : Nat → Nat → Int32) (lv le : Int32) (be at' : Nat → Int32) : z_S := z_u (pS (lkS S a b f t) lv le be at') 22 1
theorem mkP_0 (L : Nat) (at' : Nat → Int32) : mkP L 0 0 at' := ⟨by omega, fun s hs => by
  rw [Nat.zero_testBit]
  exact (used_no (fun ⟨i, hi, _⟩ => by omega)).symm⟩
set_option maxRecDepth 20000 in
theorem s_P_look {e : Nat} (he : 10 ≤ e) (hc : S.1 3 = nI n) (hn : n ≤ 5) (hL : L ≤ 6) (hLe : S.1 0 = nI L) (hv : 0 ≤ S.1 2 ∧ S.1 2 ≤ 4) (hpl : z_pl S n) (hz0 : S.1 22 = 1 → aR n (plD (dN S) n L) (S.1 23) (S.1 24) (S.2 42) → Z none (z_H S)) (hz : ∀ a b f t lv le be at', aR n (plD (dN S) n L) lv le be → Z none (z_H (plX S a b f t lv le be at'))) : z_EvM e 73 43 [z_p 41, z_p 4] (z_H S) Z := by
  obtain ⟨d, rfl⟩ : ∃ d, e = d + 10 := ⟨e - 10, by omega⟩
  have cxp : ∀ (b : Int32) f t, b = nI (2 * L) → (∀ r, r < 2 * L → f r = seatF L r) → (∀ j, j < n → ∀ r, r < 2 * L → t j r = tuN S j (seatF L r)) → P_cx (lkS S (nI n) b f t) L n (tuN S) := by
    intro b f t hb hf ht
    refine ⟨rfl, hb, hf, fun i hi s hs => ?_⟩
    rcases i with _ | _ | _ | _ | _ | i
    · exact ht 0 hi s hs
    · exact ht 1 hi s hs
    · exact ht 2 hi s hs
    · exact ht 3 hi s hs
    · exact ht 4 hi s hs
    · omega
  refine z_go (c := 4) (t := z_t43) rfl rfl rfl z_tk43 [(26, [0, 1, 2])] 60 (fun C K R hC hK hR => ?_)
  refine And.intro (fun q => ?_) (fun q => ?_)
  · have q : S.1 22 = 0 := q
    conv => whnf
    refine hC _ _ _ _ (s_B0_seatsMany (S := z_u S 25 (S.1 3)) (fun r hr => ?_))
    have hr : r = nI (2 * L) := by
      rw [hr]
      show 2 * S.1 0 = _
      rw [hLe, twoL]
    have := l_P_lk (d := d + 5) (n := n) (S := S) (Z := Z) (b := r) hr hn hL hLe hv (fun f t hf ht => ?_) (2 * L) 0 (S.2 44) (fun j => S.2 (46 + j)) (by omega) (fun r hr => by omega) (fun j hj r hr => by omega)
    · rw [← hc] at this
      exact hK _ _ _ _ this
    · have cx := cxp r f t hr hf ht
      refine z_Run_of z_tk43 [] 60 (fun C K R hC hK hR => ?_)
      conv => whnf
      refine hC _ _ _ _ (s_B0_ownTurn (S := z_u (z_u (lkS S (nI n) r f t) 23 0) 24 (-9)) (fun ro hro => ?_))
      subst hro
      have go := s_P_goThrough (S := lkS S (nI n) r f t) (L := L) (n := n) (turn := tuN S) cx hL hn n 0 (d + 9) (by omega) (by omega)
      conv => whnf
      refine hC _ _ _ _ (go 0 (fun _ => 0) (ownF (S.1 1) (S.1 2)) (0, -9, fun _ => 0) 0 (-9) (S.2 42) (S.2 43) _ (mkP_0 L _) (fun k hk => by omega) ⟨rfl, rfl, Or.inl rfl⟩ (fun lv' le' be' at3 h1 h2 => ?_))
      refine And.intro (Or.inr rfl) ?_
      exact hR _ _ ⟨rfl, hz (nI n) r f t lv' le' be' at3 h1⟩
  · have q : ¬ S.1 22 = 0 := q
    rcases hpl with h | ⟨h, L2, h1, h2, h3, h4, h5⟩
    · exact absurd h q
    · have eL : L2 = L := (nI_eq (by omega) (by omega)).mp (h2.symm.trans hLe)
      subst eL
      exact hR _ _ rfl (hz0 h ⟨h3, h4, h5⟩)
end
