/-! thrown, highest -/
set_option maxRecDepth 20000 in
theorem s_M_commonE {d nh P Q : Nat} {h : List z_C} {Z : z_Zt} {x y : Int32} (hx : x = nI P) (hy : y = nI Q) (hP : P < 2 ^ 20) (hQ : Q < 2 ^ 20) (hz : Z (some (.inl (nI (Nat.gcd P Q)))) h) : z_EvM (d + 41) nh 115 [.inl x, .inl y] h Z := by
  subst hx
  subst hy
  exact s_M_common 20 (d + 40) P Q hQ (by omega) (by omega) (by omega) Z hz
set_option maxRecDepth 20000 in
theorem s_M_thrownNo {d n j : Nat} {S D : z_S} {Z : z_Zt} {wt ft x c part : Int32} (k : Int32) (hkj : -k = nI j) (hj : j < 7) (hk0 : ¬ k = 0) (hD : z_Rl (S.2 61) D) (hc : D.1 3 = nI n) (hn : n ≤ 5) (hwhy : (k = -1 ∧ ¬ (sP (D.1 0) x ∧ isN c n)) ∨ (sP (D.1 0) x ∧ ∃ i, i < n ∧ c = nI i ∧ ((k = -2 ∧ ¬ isN part 2) ∨ (isN part 2 ∧ ((k = -3 ∧ ((∃ q, q < n ∧ D.2 3 q = x) ∨ D.2 3 i = 0)) ∨ (¬ (∃ q, q < n ∧ D.2 3 q = x) ∧ ¬ D.2 3 i = 0 ∧ ((k = -4 ∧ (wt < 1 ∨ ft < 1)) ∨ (k = -6 ∧ ¬ wt < 1 ∧ ¬ ft < 1 ∧ (60 < wt ∨ 20 < ft))))))))) (hz : Z (some (.inl k)) (z_H (z_rm2 S j))) : z_EvM (d + 4) 73 171 [z_p 59, .inl wt, .inl ft, .inl x, .inl c, .inl part] (z_H S) Z := by
  have last : z_Run (d + 4) 73 (z_own 8) z_m171.2.1 z_m171.2.2.1 none (fun v h' => z_nar z_m171.2.2.2.1 v ∧ Z v h') 92 [(0, z_p 59), (6, .inl k)] [] (z_H S) := by
    refine z_Run_of z_tk171 [] 100 (fun C K R hC hK hR => ?_)
    refine And.intro (fun e => absurd e hk0) (fun _ => ?_)
    conv => whnf
    refine hC _ _ _ _ (s_M_refuse (k := j) hj hkj ?_)
    exact hR _ _ ⟨⟨_, rfl, rfl⟩, hz⟩
  refine z_go (c := 8) (t := z_t171) rfl rfl rfl z_tk171 [(92, [0, 6])] 100 (fun C K R hC hK hR => ?_)
  rcases hwhy with ⟨rfl, hno⟩ | ⟨hx, i, hi, rfl, hwhy⟩
  · conv => whnf
    refine hC _ _ _ _ (s_M_isSeatP hD (fun r1 hr1 => ?_))
    refine And.intro (fun e => hK _ _ _ _ last) (fun e => ?_)
    conv => whnf
    refine hC _ _ _ _ (s_M_isKidP hD hc hn (fun r2 hr2 => ?_))
    refine And.intro (fun e2 => absurd ⟨zb_t hr1 e, zb_t hr2 e2⟩ hno) (fun e2 => hK _ _ _ _ last)
  · conv => whnf
    refine hC _ _ _ _ (s_M_isSeatP hD (fun r1 hr1 => ?_))
    refine And.intro (fun e => absurd hx (zb_f hr1 e)) (fun e => ?_)
    conv => whnf
    refine hC _ _ _ _ (s_M_isKidP hD hc hn (fun r2 hr2 => ?_))
    refine And.intro (fun e2 => ?_) (fun e2 => absurd ⟨i, hi, rfl⟩ (zb_f hr2 e2))
    conv => whnf
    refine hC _ _ _ _ (s_M_isInP 2 (by omega) rfl (fun r3 hr3 => ?_))
    rcases hwhy with ⟨rfl, hno⟩ | ⟨hp, hwhy⟩
    · refine And.intro (fun e3 => absurd (zb_t hr3 e3) hno) (fun e3 => hK _ _ _ _ last)
    · refine And.intro (fun e3 => ?_) (fun e3 => absurd hp (zb_f hr3 e3))
      conv => whnf
      refine hC _ _ _ _ (s_M_whoP hD hc hn hx.1 (fun r4 hr4 => ?_))
      rcases hwhy with ⟨rfl, hwhy⟩ | ⟨hfr, hsi, hwhy⟩
      · refine And.intro (fun _ => hK _ _ _ _ last) (fun e4 => ?_)
        conv => whnf
        refine hC _ _ _ _ (s_M_seatN hD (by omega) ?_)
        refine And.intro (fun e5 => ?_) (fun e5 => hK _ _ _ _ last)
        rcases hwhy with ⟨q, hq, hfq⟩ | hwhy
        · rcases hr4 with ⟨i2, h1, h2, h3, -⟩ | ⟨h1, h2, h3⟩
          · exact absurd (lt_nge e4) h3
          · exact absurd hfq (h3 q hq)
        · exact absurd hwhy e5
      · rcases hr4 with ⟨i2, h1, h2, h3, h4, -⟩ | ⟨h1, h2, h3⟩
        · exact absurd ⟨i2, h1, h4⟩ hfr
        · refine And.intro (fun e4 => absurd h2 (nlt_le e4)) (fun e4 => ?_)
          conv => whnf
          refine hC _ _ _ _ (s_M_seatN hD (by omega) ?_)
          refine And.intro (fun e5 => ?_) (fun e5 => absurd e5 hsi)
          rcases hwhy with ⟨rfl, hw⟩ | ⟨rfl, hw1, hw2, hw3⟩
          · refine And.intro (fun _ => hK _ _ _ _ last) (fun q1 => ?_)
            refine And.intro (fun q2 => absurd (hw.resolve_left q1) (nlt_le q2)) (fun _ => hK _ _ _ _ last)
          · refine And.intro (fun q => absurd q hw1) (fun _ => ?_)
            refine And.intro (fun q2 => ?_) (fun q2 => absurd (lt_nge q2) hw2)
            refine And.intro (fun _ => hK _ _ _ _ last) (fun q3 => ?_)
            refine And.intro (fun q4 => absurd (hw3.resolve_left q3) (nlt_le q4)) (fun _ => hK _ _ _ _ last)
set_option maxRecDepth 20000 in
theorem s_M_thrownOk {d n i : Nat} {S D : z_S} {Z : z_Zt} {wt ft x part : Int32} (hD : z_Rl (S.2 61) D) (hc : D.1 3 = nI n) (hn : n ≤ 5) (hi : i < n) (hx : sP (D.1 0) x) (hp : isN part 2) (hfr : ¬ (∃ q, q < n ∧ D.2 3 q = x)) (hsi : ¬ D.2 3 i = 0) (hw1 : ¬ wt < 1) (hf1 : ¬ ft < 1) (hw2 : ¬ 60 < wt) (hf2 : ¬ 20 < ft) (hA : -20 ≤ armF (D.1 2) x ∧ armF (D.1 2) x ≤ 20) (hB : -20 ≤ armF (D.1 2) (D.2 3 i) ∧ armF (D.1 2) (D.2 3 i) ≤ 20) (hz : ∀ r, thF wt ft (armF (D.1 2) x) (D.2 1 i) (armF (D.1 2) (D.2 3 i)) part r → Z (some (.inl r)) (z_H S)) (hwe : 1 ≤ D.2 1 i ∧ D.2 1 i ≤ 60) : z_EvM (d + 60) 73 171 [z_p 59, .inl wt, .inl ft, .inl x, .inl (nI i), .inl part] (z_H S) Z := by
  refine z_go (c := 8) (t := z_t171) rfl rfl rfl z_tk171 [] 100 (fun C K R hC hK hR => ?_)
  conv => whnf
  refine hC _ _ _ _ (s_M_isSeatP hD (fun r1 hr1 => ?_))
  refine And.intro (fun e => absurd hx (zb_f hr1 e)) (fun e => ?_)
  conv => whnf
  refine hC _ _ _ _ (s_M_isKidP hD hc hn (fun r2 hr2 => ?_))
  refine And.intro (fun e2 => ?_) (fun e2 => absurd ⟨i, hi, rfl⟩ (zb_f hr2 e2))
  conv => whnf
  refine hC _ _ _ _ (s_M_isInP 2 (by omega) rfl (fun r3 hr3 => ?_))
  refine And.intro (fun e3 => ?_) (fun e3 => absurd hp (zb_f hr3 e3))
  conv => whnf
  refine hC _ _ _ _ (s_M_whoP hD hc hn hx.1 (fun r4 hr4 => ?_))
  rcases hr4 with ⟨i2, h1, h2, h3, h4, -⟩ | ⟨h1, h2, h3⟩
  · exact absurd ⟨i2, h1, h4⟩ hfr
  · refine And.intro (fun e4 => absurd h2 (nlt_le e4)) (fun e4 => ?_)
    conv => whnf
    refine hC _ _ _ _ (s_M_seatN hD (by omega) ?_)
    refine And.intro (fun e5 => ?_) (fun e5 => absurd e5 hsi)
    refine And.intro (fun q => absurd q hw1) (fun _ => ?_)
    refine And.intro (fun q2 => ?_) (fun q2 => absurd (lt_nge q2) hf1)
    refine And.intro (fun q => absurd q hw2) (fun _ => ?_)
    refine And.intro (fun q2 => ?_) (fun q2 => absurd (lt_nge q2) hf2)
    refine And.intro (fun _ => ?_) (fun e => absurd rfl e)
    conv => whnf
    refine hC _ _ _ _ (s_M_armN hD ?_)
    conv => whnf
    refine hC _ _ _ _ (s_M_seatN hD (by omega) ?_)
    conv => whnf
    refine hC _ _ _ _ (s_M_armN hD ?_)
    have hm := mneg hA.1 hA.2 hB.1 hB.2
    refine And.intro (fun q => ?_) (fun q => ?_)
    · have ho : opp (armF (D.1 2) x) (armF (D.1 2) (D.2 3 i)) := hm.mp q
      obtain ⟨P, Q, p1, p2, p3, p4, p5, p6⟩ := th_num (nlt_ge hw1) (nlt_ge hw2) (nlt_ge hf1) (nlt_ge hf2) hA.1 hA.2 hwe.1 hwe.2 hB.1 hB.2 ho
      conv => whnf
      refine hC _ _ _ _ (s_M_amount (h := z_H S) (fun r5 hr5 => ?_))
      have e5 : r5 = absF (armF (D.1 2) x) := hr5
      subst e5
      conv => whnf
      refine hC _ _ _ _ (s_M_kidN hD (by omega) 1 (by omega) rfl ?_)
      conv => whnf
      refine hC _ _ _ _ (s_M_amount (h := z_H S) (fun r6 hr6 => ?_))
      have e6 : r6 = absF (armF (D.1 2) (D.2 3 i)) := hr6
      subst e6
      conv => whnf
      refine hC _ _ _ _ (s_M_commonE (h := z_H S) p5 p6 (by omega) (by omega) ?_)
      have hg : 0 < Nat.gcd P Q := Nat.gcd_pos_of_pos_left Q (by omega)
      have hg2 : Nat.gcd P Q ≤ P := Nat.gcd_le_left Q (by omega)
      refine And.intro (fun q1 => ?_) (fun q1 => ?_)
      · refine And.intro (nI_ne0 hg (by omega)) ?_
        refine hR _ _ ⟨_, rfl, rfl⟩ (hz _ (Or.inr ⟨ho, P, Q, p1, p2, p3, p4, p5, p6, ?_⟩))
        rw [if_neg q1, ← pk_div (by omega) hg (by omega), ← p6]
      · refine And.intro (nI_ne0 hg (by omega)) ?_
        refine hR _ _ ⟨_, rfl, rfl⟩ (hz _ (Or.inr ⟨ho, P, Q, p1, p2, p3, p4, p5, p6, ?_⟩))
        rw [if_pos q1, ← pk_div (by omega) hg (by omega), ← p5]
    · exact hR _ _ ⟨_, rfl, rfl⟩ (hz _ (Or.inl ⟨fun z => q (hm.mpr z), rfl⟩))
theorem thF_eq {wt ft A we B part r r' : Int32} (h : thF wt ft A we B part r) (h' : thF wt ft A we B part r') : r' = r := by
  rcases h with ⟨h1, h2⟩ | ⟨h1, P, Q, p1, p2, p3, p4, p5, p6, p7⟩
  · rcases h' with ⟨g1, g2⟩ | ⟨g1, -⟩
    · rw [g2, h2]
    · exact absurd g1 h1
  · rcases h' with ⟨g1, g2⟩ | ⟨g1, P', Q', q1, q2, q3, q4, q5, q6, q7⟩
    · exact absurd h1 g1
    · have eP : P' = P := (nI_eq (by omega) (by omega)).mp (q5.symm.trans p5)
      have eQ : Q' = Q := (nI_eq (by omega) (by omega)).mp (q6.symm.trans p6)
      rw [q7, p7, eP, eQ]
set_option maxRecDepth 20000 in
theorem r_X_thrown {i n : Nat} {S : z_S} {Z : z_Zt} {wt ft x part : Int32} (hc : S.1 3 = nI n) (hn : n ≤ 5) (hi : i < n) (hp : isN part 2) (hw1 : ¬ wt < 1) (hf1 : ¬ ft < 1) (hw2 : ¬ 60 < wt) (hf2 : ¬ 20 < ft) (hA : -20 ≤ armF (S.1 2) x ∧ armF (S.1 2) x ≤ 20) (hB : -20 ≤ armF (S.1 2) (S.2 8 i) ∧ armF (S.1 2) (S.2 8 i) ≤ 20) (hwe : 1 ≤ S.2 6 i ∧ S.2 6 i ≤ 60) (hz : ∀ r, thF wt ft (armF (S.1 2) x) (S.2 6 i) (armF (S.1 2) (S.2 8 i)) part r → Z (some (.inl r)) (z_H S)) : z_Run 600 73 (z_own 7) z_m85.2.1 z_m85.2.2.1 none (fun v h' => z_nar z_m85.2.2.2.1 v ∧ Z v h') 113 [(0, z_p 0), (1, .inl wt), (2, .inl ft), (3, .inl x), (4, .inl (nI i)), (5, .inl part)] [] (z_H S) := by
  have hcl : (nI i).toNatClampNeg = i := nI_clamp (by omega)
  have hin : vp_in (nI i) 5 := vp_in_nI (by omega) (by omega)
  refine z_Run_of z_tk85 [] 100 (fun C K R hC hK hR => ?_)
  conv => whnf
  refine hC _ _ _ _ (s_B0_armOf (fun r3 hr3 => ?_))
  subst hr3
  refine And.intro hin ?_
  conv => whnf
  refine hC _ _ _ _ (s_B0_armOf (fun r4 hr4 => ?_))
  rw [hcl] at hr4
  subst hr4
  conv => whnf
  refine hC _ _ _ _ (s_X_areOpposite (h := z_H S) (fun r5 hr5 => ?_))
  have hr5 : z_b r5 (opp (armF (S.1 2) x) (armF (S.1 2) (S.2 8 i))) := zb_if hr5
  refine And.intro (fun e5 => ?_) (fun e5 => ?_)
  · have ho := zb_t hr5 e5
    obtain ⟨P, Q, p1, p2, p3, p4, p5, p6⟩ := th_num (nlt_ge hw1) (nlt_ge hw2) (nlt_ge hf1) (nlt_ge hf2) hA.1 hA.2 hwe.1 hwe.2 hB.1 hB.2 ho
    have p5' : wt * ft * (if 0 ≤ armF (S.1 2) x then armF (S.1 2) x else 0 - armF (S.1 2) x) = nI P := by rw [abs_eq]; exact p5
    have p6' : S.2 6 (nI i).toNatClampNeg * (if 0 ≤ armF (S.1 2) (S.2 8 i) then armF (S.1 2) (S.2 8 i) else 0 - armF (S.1 2) (S.2 8 i)) = nI Q := by rw [abs_eq, hcl]; exact p6
    refine And.intro hin ?_
    refine And.intro (fun q1 => ?_) (fun q1 => ?_)
    · refine And.intro (fun q2 => ?_) (fun q2 => absurd q2 q1)
      conv => whnf
      refine hC _ _ _ _ (s_X_inLeastTerms (h := z_H S) (P := Q) (O := P) (by omega) (by omega) (by omega) (by omega) p6' p5' ?_)
      refine hR _ _ ⟨⟨_, rfl, rfl⟩, hz _ (Or.inr ⟨ho, P, Q, p1, p2, p3, p4, p5, p6, ?_⟩)⟩
      rw [if_neg q1, Nat.gcd_comm]
    · refine And.intro (fun q2 => absurd q1 q2) (fun q2 => ?_)
      conv => whnf
      refine hC _ _ _ _ (s_X_inLeastTerms (h := z_H S) (P := P) (O := Q) (by omega) (by omega) (by omega) (by omega) p5' p6' ?_)
      refine hR _ _ ⟨⟨_, rfl, rfl⟩, hz _ (Or.inr ⟨ho, P, Q, p1, p2, p3, p4, p5, p6, ?_⟩)⟩
      rw [if_pos q1]
  · exact hR _ _ ⟨⟨_, rfl, rfl⟩, hz _ (Or.inl ⟨zb_f hr5 e5, rfl⟩)⟩
set_option maxRecDepth 20000 in
theorem op_thrown (wt ft x c part : Int32) : z_op 85 171 [.inl wt, .inl ft, .inl x, .inl c, .inl part] := by
  intro S hI Z hz
  obtain ⟨n, g, u, t, w, hok, hRl, him, htx, hrw, hrf, hpl⟩ := id hI
  obtain ⟨⟨hn, hc⟩, hg, hu, hL, hO, hN, hf, hwe, hdi, hgu⟩ := id hok
  have no : ∀ (k : Int32) (j : Nat), -k = nI j → j < 7 → ¬ k = 0 → ((k = -1 ∧ ¬ (sP (S.1 0) x ∧ isN c n)) ∨ (sP (S.1 0) x ∧ ∃ i, i < n ∧ c = nI i ∧ ((k = -2 ∧ ¬ isN part 2) ∨ (isN part 2 ∧ ((k = -3 ∧ ((∃ q, q < n ∧ S.2 8 q = x) ∨ S.2 8 i = 0)) ∨ (¬ (∃ q, q < n ∧ S.2 8 q = x) ∧ ¬ S.2 8 i = 0 ∧ ((k = -4 ∧ (wt < 1 ∨ ft < 1)) ∨ (k = -6 ∧ ¬ wt < 1 ∧ ¬ ft < 1 ∧ (60 < wt ∨ 20 < ft))))))))) → Z (some (.inl k)) (z_H (z_rx S j)) := by
    intro k j h1 h2 h3 h4
    refine hz _ _ (fun Z2 hz2 => ?_)
    exact s_M_thrownNo (S := z_rx S j) (D := dN S) k h1 h2 h3 hRl hc hn h4 (hz2 _ _ rfl (Inv_ref hI h2))
  have bad : ¬ (sP (S.1 0) x ∧ isN c n) → z_Run 600 73 (z_own 7) z_m85.2.1 z_m85.2.2.1 none (fun v h' => z_nar z_m85.2.2.2.1 v ∧ Z v h') 23 [(0, z_p 0)] [] (z_H S) := by
    intro h
    refine z_Run_of z_tk85 [] 100 (fun C K R hC hK hR => ?_)
    conv => whnf
    refine hC _ _ _ _ (s_X_refuse 1 (by omega) rfl ?_)
    exact hR _ _ ⟨⟨_, rfl, rfl⟩, no (-1) 1 rfl (by omega) (by decide) (Or.inl ⟨rfl, h⟩)⟩
  refine z_go (c := 7) (t := z_t85) rfl rfl rfl z_tk85 [(23, [0]), (47, [0, 1, 2, 3, 4, 5])] 100 (fun C K R hC hK hR => ?_)
  conv => whnf
  refine hC _ _ _ _ (s_B0_hasSeatP (fun r1 hr1 => ?_))
  refine And.intro (fun e1 => hK _ _ _ _ (bad (fun z => zb_f hr1 e1 z.1))) (fun e1 => ?_)
  have hx := zb_t hr1 e1
  conv => whnf
  refine hC _ _ _ _ (s_B0_hasChildP hc hn (fun r2 hr2 => ?_))
  refine And.intro (fun e2 => ?_) (fun e2 => hK _ _ _ _ (bad (fun z => zb_f hr2 e2 z.2)))
  obtain ⟨i, hi, rfl⟩ := zb_t hr2 e2
  have six := sP_in hL.2 hL.1 hx
  have hA := arm_in hN.1 hN.2 six.1 six.2
  have hB := arm_in hN.1 hN.2 (hf i hi).1 (hf i hi).2
  have main : isN part 2 → z_Run 600 73 (z_own 7) z_m85.2.1 z_m85.2.2.1 none (fun v h' => z_nar z_m85.2.2.2.1 v ∧ Z v h') 47 [(0, z_p 0), (1, .inl wt), (2, .inl ft), (3, .inl x), (4, .inl (nI i)), (5, .inl part)] [] (z_H S) := by
    intro hp
    have st : ((∃ q, q < n ∧ S.2 8 q = x) ∨ S.2 8 i = 0) → z_Run 600 73 (z_own 7) z_m85.2.1 z_m85.2.2.1 none (fun v h' => z_nar z_m85.2.2.2.1 v ∧ Z v h') 70 [(0, z_p 0)] [] (z_H S) := by
      intro h
      refine z_Run_of z_tk85 [] 100 (fun C K R hC hK hR => ?_)
      conv => whnf
      refine hC _ _ _ _ (s_X_refuse 3 (by omega) rfl ?_)
      exact hR _ _ ⟨⟨_, rfl, rfl⟩, no (-3) 3 rfl (by omega) (by decide) (Or.inr ⟨hx, i, hi, rfl, Or.inr ⟨hp, Or.inl ⟨rfl, h⟩⟩⟩)⟩
    have lo : ¬ (∃ q, q < n ∧ S.2 8 q = x) → ¬ S.2 8 i = 0 → (wt < 1 ∨ ft < 1) → z_Run 600 73 (z_own 7) z_m85.2.1 z_m85.2.2.1 none (fun v h' => z_nar z_m85.2.2.2.1 v ∧ Z v h') 87 [(0, z_p 0)] [] (z_H S) := by
      intro h1 h2 h
      refine z_Run_of z_tk85 [] 100 (fun C K R hC hK hR => ?_)
      conv => whnf
      refine hC _ _ _ _ (s_X_refuse 4 (by omega) rfl ?_)
      exact hR _ _ ⟨⟨_, rfl, rfl⟩, no (-4) 4 rfl (by omega) (by decide) (Or.inr ⟨hx, i, hi, rfl, Or.inr ⟨hp, Or.inr ⟨h1, h2, Or.inl ⟨rfl, h⟩⟩⟩⟩)⟩
    have up : ¬ (∃ q, q < n ∧ S.2 8 q = x) → ¬ S.2 8 i = 0 → ¬ wt < 1 → ¬ ft < 1 → (60 < wt ∨ 20 < ft) → z_Run 600 73 (z_own 7) z_m85.2.1 z_m85.2.2.1 none (fun v h' => z_nar z_m85.2.2.2.1 v ∧ Z v h') 106 [(0, z_p 0)] [] (z_H S) := by
      intro h1 h2 h3 h4 h
      refine z_Run_of z_tk85 [] 100 (fun C K R hC hK hR => ?_)
      conv => whnf
      refine hC _ _ _ _ (s_X_refuse 6 (by omega) rfl ?_)
      exact hR _ _ ⟨⟨_, rfl, rfl⟩, no (-6) 6 rfl (by omega) (by decide) (Or.inr ⟨hx, i, hi, rfl, Or.inr ⟨hp, Or.inr ⟨h1, h2, Or.inr ⟨rfl, h3, h4, h⟩⟩⟩⟩)⟩
    refine z_Run_of z_tk85 [(70, [0]), (87, [0]), (106, [0]), (113, [0, 1, 2, 3, 4, 5])] 100 (fun C K R hC hK hR => ?_)
    conv => whnf
    refine hC _ _ _ _ (s_B0_isTaken hc hn (fun r3 hr3 => ?_))
    refine And.intro (fun e3 => hK _ _ _ _ (st (Or.inl (zb_t hr3 e3)))) (fun e3 => ?_)
    have hfr := zb_f hr3 e3
    conv => whnf
    refine hC _ _ _ _ (s_B0_sitsP hc hn hi (fun r4 hr4 => ?_))
    refine And.intro (fun e4 => ?_) (fun e4 => hK _ _ _ _ (st (Or.inr (Decidable.not_not.mp (zb_f hr4 e4)))))
    have hsi := zb_t hr4 e4
    refine And.intro (fun q1 => hK _ _ _ _ (lo hfr hsi (Or.inl q1))) (fun q1 => ?_)
    refine And.intro (fun q2 => ?_) (fun q2 => hK _ _ _ _ (lo hfr hsi (Or.inr (lt_nge q2))))
    refine And.intro (fun q3 => hK _ _ _ _ (up hfr hsi q1 (nlt_le q2) (Or.inl q3))) (fun q3 => ?_)
    refine And.intro (fun q4 => ?_) (fun q4 => hK _ _ _ _ (up hfr hsi q1 (nlt_le q2) (Or.inr (lt_nge q4))))
    refine hK _ _ _ _ (r_X_thrown hc hn hi hp q1 (nlt_le q2) q3 (nlt_le q4) hA hB (hwe i hi) (fun r hr => hz r S (fun Z2 hz2 => ?_)))
    exact s_M_thrownOk hRl hc hn hi hx hp hfr hsi q1 (nlt_le q2) q3 (nlt_le q4) hA hB (fun r' hr' => hz2 _ S (thF_eq hr hr') hI) (hwe i hi)
  refine And.intro (fun q => hK _ _ _ _ (main (isN2.mpr (Or.inl q)))) (fun q => And.intro (fun q2 => hK _ _ _ _ (main (isN2.mpr (Or.inr q2)))) (fun q2 => ?_))
  conv => whnf
  refine hC _ _ _ _ (s_X_refuse 2 (by omega) rfl ?_)
  exact hR _ _ ⟨_, rfl, rfl⟩ (no (-2) 2 rfl (by omega) (by decide) (Or.inr ⟨hx, i, hi, rfl, Or.inl ⟨rfl, fun z => (isN2.mp z).elim q q2⟩⟩))
