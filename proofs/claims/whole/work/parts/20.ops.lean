/-! calls that tell: letters, the row, goes, guesses -/
theorem wi_lo {r v a b : Int32} (hr : r = if v < a then -4 else if b < v then -6 else 0) (h : v < a) : r = -4 := by rw [hr, if_pos h]
theorem wi_hi {r v a b : Int32} (hr : r = if v < a then -4 else if b < v then -6 else 0) (h : ¬ v < a) (h2 : b < v) : r = -6 := by rw [hr, if_neg h, if_pos h2]
theorem wi_ok {r v a b : Int32} (hr : r = if v < a then -4 else if b < v then -6 else 0) (h : ¬ v < a) (h2 : ¬ b < v) : r = 0 := by rw [hr, if_neg h, if_neg h2]
theorem wi_0 {r v a b : Int32} (hr : r = if v < a then -4 else if b < v then -6 else 0) (h : r = 0) : ¬ v < a ∧ ¬ b < v := by
  by_cases h1 : v < a
  · rw [hr, if_pos h1] at h; exact absurd h (by decide)
  · by_cases h2 : b < v
    · rw [hr, if_neg h1, if_pos h2] at h; exact absurd h (by decide)
    · exact ⟨h1, h2⟩
theorem nlt_le {x y : Int32} (h : x ≤ y) : ¬ y < x := by grind
theorem lt_nge {x y : Int32} (h : ¬ x ≤ y) : y < x := by grind
theorem nlt_ge {x y : Int32} (h : ¬ x < y) : y ≤ x := by grind
set_option maxRecDepth 20000 in
theorem s_T_isFull {d t : Nat} {S : z_S} {Z : z_Zt} (ht : S.1 34 = nI t) (ht8 : t ≤ 80) (hz : ∀ r : Int32, z_b r (t = 80) → Z (some (.inl r)) (z_H S)) : z_EvM (d + 1) 73 50 [z_p 1] (z_H S) Z := by
  refine z_go (c := 6) (t := z_t50) rfl rfl rfl z_tk50 [] 100 (fun C K R hC hK hR => ?_)
  refine And.intro (fun q => ?_) (fun q => ?_)
  · have q : S.1 34 < 80 := q
    rw [ht] at q
    have := (nI_ltI (a := t) (b := 80) (by omega) (by omega)).mp q
    exact hR _ _ ⟨_, rfl, rfl⟩ (hz _ (Or.inr ⟨rfl, by omega⟩))
  · have q : ¬ S.1 34 < 80 := q
    rw [ht] at q
    have h2 : ¬ t < 80 := fun z => q (nI_lt (a := t) (b := 80) z (by omega))
    exact hR _ _ ⟨_, rfl, rfl⟩ (hz _ (Or.inl ⟨rfl, by omega⟩))
set_option maxRecDepth 20000 in
theorem s_T_add {d t : Nat} {S : z_S} {Z : z_Zt} {c : Int32} (ht : S.1 34 = nI t) (ht8 : t < 80) (hz : Z none (z_H (z_u (z_w S 2 (upd (S.2 2) (S.1 34).toNatClampNeg c)) 34 (S.1 34 + 1)))) : z_EvM (d + 2) 73 51 [z_p 1, .inl c] (z_H S) Z := by
  refine z_go (c := 6) (t := z_t51) rfl rfl rfl z_tk51 [] 100 (fun C K R hC hK hR => ?_)
  conv => whnf
  refine hC _ _ _ _ (s_T_isFull ht (by omega) (fun r hr => ?_))
  refine And.intro (fun e => absurd (zb_t hr e) (by omega)) (fun e => ?_)
  refine And.intro (show vp_in (S.1 34) 80 by rw [ht]; exact vp_in_nI ht8 (by omega)) ?_
  exact hR _ _ rfl hz
set_option maxRecDepth 20000 in
theorem s_M_letterOk {d t : Nat} {S : z_S} {Z : z_Zt} {c : Int32} (h0 : 0 ≤ c) (h1 : ¬ 255 < c) (ht : S.1 40 = nI t) (htl : t < 80) (hz : Z (some (.inl (S.1 40 + 1))) (z_H (z_u (z_w S 64 (upd (S.2 64) (S.1 40).toNatClampNeg c)) 40 (S.1 40 + 1)))) : z_EvM (d + 2) 73 120 [z_p 59, .inl c] (z_H S) Z := by
  refine z_go (c := 8) (t := z_t120) rfl rfl rfl z_tk120 [] 100 (fun C K R hC hK hR => ?_)
  conv => whnf
  refine hC _ _ _ _ (s_M_within (fun r2 hr2 => ?_))
  have e' : r2 = 0 := wi_ok hr2 (nlt_le h0) h1
  subst e'
  have ht80 : ¬ S.1 40 = 80 := by
    rw [ht]
    intro z
    have := (nI_eq (a := t) (b := 80) (by omega) (by omega)).mp z
    omega
  refine And.intro (fun e => absurd rfl e) (fun _ => And.intro (fun _ => ?_) (fun e => absurd e ht80))
  refine And.intro (fun _ => ?_) (fun e => absurd rfl e)
  refine And.intro (show vp_in (S.1 40) 80 by rw [ht]; exact vp_in_nI htl (by omega)) ?_
  exact hR _ _ ⟨_, rfl, rfl⟩ hz
set_option maxRecDepth 20000 in
theorem s_M_letterNo {d t : Nat} {S : z_S} {Z : z_Zt} {c : Int32} (hno : 255 < c ∨ t = 80) (h0 : 0 ≤ c) (ht : S.1 40 = nI t) (hz : Z (some (.inl (-6))) (z_H (z_rm2 S 6))) : z_EvM (d + 2) 73 120 [z_p 59, .inl c] (z_H S) Z := by
  refine z_go (c := 8) (t := z_t120) rfl rfl rfl z_tk120 [] 100 (fun C K R hC hK hR => ?_)
  conv => whnf
  refine hC _ _ _ _ (s_M_within (fun r hr => ?_))
  refine And.intro (fun e => ?_) (fun e => ?_)
  · have e' : r = -6 := by
      by_cases q : 255 < c
      · exact wi_hi hr (nlt_le h0) q
      · exact absurd (wi_ok hr (nlt_le h0) q) e
    subst e'
    refine And.intro (fun e => absurd e (by decide)) (fun _ => ?_)
    conv => whnf
    refine hC _ _ _ _ (s_M_refuse (k := 6) (by omega) rfl ?_)
    exact hR _ _ ⟨_, rfl, rfl⟩ hz
  · have hc : ¬ 255 < c := (wi_0 hr e).2
    have h8 : t = 80 := hno.resolve_left hc
    subst h8
    refine And.intro (fun q => absurd ht q) (fun _ => ?_)
    refine And.intro (fun e => absurd e (by decide)) (fun _ => ?_)
    conv => whnf
    refine hC _ _ _ _ (s_M_refuse (k := 6) (by omega) rfl ?_)
    exact hR _ _ ⟨_, rfl, rfl⟩ hz
set_option maxRecDepth 20000 in
theorem s_M_letterLo {d : Nat} {S : z_S} {Z : z_Zt} {c : Int32} (h0 : c < 0) (hz : Z (some (.inl (-4))) (z_H (z_rm2 S 4))) : z_EvM (d + 2) 73 120 [z_p 59, .inl c] (z_H S) Z := by
  refine z_go (c := 8) (t := z_t120) rfl rfl rfl z_tk120 [] 100 (fun C K R hC hK hR => ?_)
  conv => whnf
  refine hC _ _ _ _ (s_M_within (fun r hr => ?_))
  have e' : r = -4 := wi_lo hr h0
  subst e'
  refine And.intro (fun e => ?_) (fun e => absurd e (by decide))
  refine And.intro (fun e => absurd e (by decide)) (fun _ => ?_)
  conv => whnf
  refine hC _ _ _ _ (s_M_refuse (k := 4) (by omega) rfl ?_)
  exact hR _ _ ⟨_, rfl, rfl⟩ hz
set_option maxRecDepth 20000 in
theorem op_letter (c : Int32) : z_op 63 120 [.inl c] := by
  intro S hI Z hz
  obtain ⟨n, g, u, t, w, hok, hRl, him, ⟨ht8, ht1, ht2, ht3⟩, hrw, hrf, hpl⟩ := id hI
  refine z_go (c := 7) (t := z_t63) rfl rfl rfl z_tk63 [] 100 (fun C K R hC hK hR => ?_)
  refine And.intro (fun q => And.intro (fun q2 => ?_) (fun q2 => ?_)) (fun q => ?_)
  · conv => whnf
    refine hC _ _ _ _ (s_X_refuse 6 (by omega) rfl ?_)
    refine hR _ _ ⟨_, rfl, rfl⟩ (hz _ (z_rx S 6) (fun Z2 hz2 => ?_))
    exact s_M_letterNo (Or.inl q2) q ht2 (hz2 _ _ rfl (Inv_ref hI (by omega)))
  · conv => whnf
    refine hC _ _ _ _ (s_T_isFull ht1 ht8 (fun r hr => ?_))
    refine And.intro (fun e => ?_) (fun e => ?_)
    · have htl : t < 80 := by have := zb_f hr e; omega
      conv => whnf
      refine hC _ _ _ _ (s_T_add ht1 htl ?_)
      refine hR _ _ ⟨_, rfl, rfl⟩ (hz (S.1 34 + 1) (z_u (z_w S 2 (upd (S.2 2) (S.1 34).toNatClampNeg c)) 34 (S.1 34 + 1)) (fun Z2 hz2 => ?_))
      refine s_M_letterOk q q2 ht2 htl (hz2 _ _ (show S.1 40 + 1 = S.1 34 + 1 by rw [ht1, ht2]) ⟨n, g, u, t + 1, w, hok, hRl, him, ⟨by omega, ?_, ?_, ?_⟩, hrw, hrf, hpl⟩)
      · show S.1 34 + 1 = nI (t + 1)
        rw [ht1, nI_succ]
      · show S.1 40 + 1 = nI (t + 1)
        rw [ht2, nI_succ]
      · intro i hi
        show upd (S.2 2) (S.1 34).toNatClampNeg c i = upd (S.2 64) (S.1 40).toNatClampNeg c i
        rw [ht1, ht2, nI_clamp (by omega)]
        by_cases e2 : i = t
        · subst e2
          rw [pk_us, pk_us]
        · rw [pk_un e2, pk_un e2, ht3 i (by omega)]
    · have htl := zb_t hr e
      conv => whnf
      refine hC _ _ _ _ (s_X_refuse 6 (by omega) rfl ?_)
      refine hR _ _ ⟨_, rfl, rfl⟩ (hz _ (z_rx S 6) (fun Z2 hz2 => ?_))
      exact s_M_letterNo (Or.inr htl) q ht2 (hz2 _ _ rfl (Inv_ref hI (by omega)))
  · conv => whnf
    refine hC _ _ _ _ (s_X_refuse 4 (by omega) rfl ?_)
    refine hR _ _ ⟨_, rfl, rfl⟩ (hz _ (z_rx S 4) (fun Z2 hz2 => ?_))
    exact s_M_letterLo (lt_nge q) (hz2 _ _ rfl (Inv_ref hI (by omega)))
set_option maxRecDepth 20000 in
theorem op_guess (rule l r : Int32) : z_op 87 176 [.inl rule, .inl l, .inl r] := by
  intro S hI Z hz
  have ref : isN rule 5 → digP l → digP r → ∀ Z2 : z_Zt, (∀ (b : Int32) (S2 : z_S), b = guessF rule l r → Inv S2 → Z2 (some (.inl b)) (z_H S2)) → z_EvM 600 73 176 [z_p 59, .inl rule, .inl l, .inl r] (z_H S) Z2 := by
    intro h1 h2 h3 Z2 hz2
    refine z_go (c := 8) (t := z_t176) rfl rfl rfl z_tk176 [] 100 (fun C K R hC hK hR => ?_)
    conv => whnf
    refine hC _ _ _ _ (s_M_isInP 5 (by omega) rfl (fun r1 hr1 => ?_))
    refine And.intro (fun _ => ?_) (fun e => absurd h1 (zb_f hr1 e))
    conv => whnf
    refine hC _ _ _ _ (s_M_areDigitsP (fun r2 hr2 => ?_))
    refine And.intro (fun e => absurd h2 (zb_f hr2 e)) (fun _ => ?_)
    conv => whnf
    refine hC _ _ _ _ (s_M_areDigitsP (fun r3 hr3 => ?_))
    refine And.intro (fun e => absurd h3 (zb_f hr3 e)) (fun _ => ?_)
    refine And.intro (fun _ => ?_) (fun e => absurd rfl e)
    conv => whnf
    refine hC _ _ _ _ (s_M_guessBy (fun v hv => ?_))
    exact hR _ _ ⟨_, rfl, rfl⟩ (hz2 _ S hv hI)
  have no2 : isN rule 5 → ¬ (digP l ∧ digP r) → ∀ Z2 : z_Zt, (∀ (b : Int32) (S2 : z_S), b = -2 → Inv S2 → Z2 (some (.inl b)) (z_H S2)) → z_EvM 600 73 176 [z_p 59, .inl rule, .inl l, .inl r] (z_H (z_rx S 2)) Z2 := by
    intro h1 h2 Z2 hz2
    refine z_go (c := 8) (t := z_t176) rfl rfl rfl z_tk176 [] 100 (fun C K R hC hK hR => ?_)
    conv => whnf
    refine hC _ _ _ _ (s_M_isInP 5 (by omega) rfl (fun r1 hr1 => ?_))
    refine And.intro (fun _ => ?_) (fun e => absurd h1 (zb_f hr1 e))
    conv => whnf
    refine hC _ _ _ _ (s_M_areDigitsP (fun r2 hr2 => ?_))
    refine And.intro (fun e => ?_) (fun e => ?_)
    · refine And.intro (fun e => absurd e (by decide)) (fun _ => ?_)
      conv => whnf
      refine hC _ _ _ _ (s_M_refuse (k := 2) (by omega) rfl ?_)
      exact hR _ _ ⟨_, rfl, rfl⟩ (hz2 _ _ rfl (Inv_ref hI (by omega)))
    · conv => whnf
      refine hC _ _ _ _ (s_M_areDigitsP (fun r3 hr3 => ?_))
      refine And.intro (fun e3 => ?_) (fun e3 => absurd ⟨zb_t hr2 e, zb_t hr3 e3⟩ h2)
      refine And.intro (fun e => absurd e (by decide)) (fun _ => ?_)
      conv => whnf
      refine hC _ _ _ _ (s_M_refuse (k := 2) (by omega) rfl ?_)
      exact hR _ _ ⟨_, rfl, rfl⟩ (hz2 _ _ rfl (Inv_ref hI (by omega)))
  refine z_go (c := 7) (t := z_t87) rfl rfl rfl z_tk87 [] 100 (fun C K R hC hK hR => ?_)
  conv => whnf
  refine hC _ _ _ _ (s_X_isRuleP (fun r1 hr1 => ?_))
  refine And.intro (fun e1 => ?_) (fun e1 => ?_)
  · conv => whnf
    refine hC _ _ _ _ (s_X_isWeightAndFeetP (fun r2 hr2 => ?_))
    refine And.intro (fun e2 => ?_) (fun e2 => ?_)
    · conv => whnf
      refine hC _ _ _ _ (s_X_refuse 2 (by omega) rfl ?_)
      refine hR _ _ ⟨_, rfl, rfl⟩ (hz _ (z_rx S 2) (fun Z2 hz2 => ?_))
      exact no2 (zb_t hr1 e1) (fun z => zb_f hr2 e2 z.1) Z2 hz2
    · conv => whnf
      refine hC _ _ _ _ (s_X_isWeightAndFeetP (fun r3 hr3 => ?_))
      refine And.intro (fun e3 => ?_) (fun e3 => ?_)
      · have hl := zb_t hr2 e2
        have hr := zb_t hr3 e3
        conv => whnf
        refine hC _ _ _ _ (s_X_guessBy ⟨hl.1, hl.2.1⟩ ⟨hr.1, hr.2.1⟩ (fun v hv => ?_))
        refine hR _ _ ⟨_, rfl, rfl⟩ (hz v S (fun Z2 hz2 => ref (zb_t hr1 e1) hl hr Z2 (fun b S2 hb => hz2 b S2 (hb.trans hv.symm))))
      · conv => whnf
        refine hC _ _ _ _ (s_X_refuse 2 (by omega) rfl ?_)
        refine hR _ _ ⟨_, rfl, rfl⟩ (hz _ (z_rx S 2) (fun Z2 hz2 => ?_))
        exact no2 (zb_t hr1 e1) (fun z => zb_f hr3 e3 z.2) Z2 hz2
  · have hno := zb_f hr1 e1
    conv => whnf
    refine hC _ _ _ _ (s_X_refuse 1 (by omega) rfl ?_)
    refine hR _ _ ⟨_, rfl, rfl⟩ (hz _ (z_rx S 1) (fun Z2 hz2 => ?_))
    refine z_go (c := 8) (t := z_t176) rfl rfl rfl z_tk176 [] 100 (fun C K R hC hK hR => ?_)
    conv => whnf
    refine hC _ _ _ _ (s_M_isInP 5 (by omega) rfl (fun r2 hr2 => ?_))
    refine And.intro (fun e => absurd (zb_t hr2 e) hno) (fun e => ?_)
    refine And.intro (fun e => absurd e (by decide)) (fun _ => ?_)
    conv => whnf
    refine hC _ _ _ _ (s_M_refuse (k := 1) (by omega) rfl ?_)
    exact hR _ _ ⟨_, rfl, rfl⟩ (hz2 _ _ rfl (Inv_ref hI (by omega)))
