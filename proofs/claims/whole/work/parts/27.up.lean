/-! up -/
theorem m100_all : ∀ k : Fin 41, ((0 < (-20 + nI k.val) * (100 : Int32)) ↔ (0 < (-20 + nI k.val) * (1 : Int32))) ∧ ((0 < (-20 + nI k.val) * (-100 : Int32)) ↔ (0 < (-20 + nI k.val) * (-1 : Int32))) := by decide +kernel
theorem m100 {a : Int32} (h1 : -20 ≤ a) (h2 : a ≤ 20) : ((0 < a * (100 : Int32)) ↔ (0 < a * (1 : Int32))) ∧ ((0 < a * (-100 : Int32)) ↔ (0 < a * (-1 : Int32))) := by
  obtain ⟨k, rfl⟩ := z_rng (x := a) (-20) 41 (n := 41) rfl (by decide) h1 (by grind) (by grind)
  exact m100_all k
theorem leg_eq {notch s s' : Int32} {le fe : Nat → Int32} (h : ∀ a : Int32, -20 ≤ a → a ≤ 20 → ((0 < a * s) ↔ (0 < a * s'))) (hv : 0 ≤ notch ∧ notch ≤ 4) : ∀ n, z_fe n fe → legF notch s le fe n = legF notch s' le fe n := by
  intro n
  induction n with
  | zero => intro _; rfl
  | succ n ih =>
    intro hf
    have ih := ih (fun k hk => hf k (by omega))
    obtain ⟨f1, f2⟩ := hf n (by omega)
    obtain ⟨a1, a2⟩ := arm_in hv.1 hv.2 f1 f2
    have e := h _ a1 a2
    rw [legF, legF, ih]
    by_cases q : ¬ fe n = 0 ∧ 0 < armF notch (fe n) * s
    · rw [if_pos q, if_pos ⟨q.1, e.mp q.2⟩]
    · rw [if_neg q, if_neg (fun z => q ⟨z.1, e.mpr z.2⟩)]
abbrev opp (x y : Int32) : Prop := (0 < x ∧ y < 0) ∨ (x < 0 ∧ 0 < y)
def upF (lr ll ga arm : Int32) : Nat → Int32 → Int32 → Int32 → Int32
  | 0, c, _, _ => c
  | m + 1, c, sp, ti => upF lr ll ga arm m (if opp arm (clF (ti + (sp + ga))) then c + 1 else c) (if clF (ti + (sp + ga)) = 100 then -(5 * lr) else if clF (ti + (sp + ga)) = -100 then 5 * ll else sp + ga) (clF (ti + (sp + ga)))
def lrF (D : z_S) (n : Nat) : Int32 := legF (D.1 2) 1 (D.2 2) (D.2 3) n
def llF (D : z_S) (n : Nat) : Int32 := legF (D.1 2) (-1) (D.2 2) (D.2 3) n
set_option maxRecDepth 20000 in
theorem s_W_pushR {d n : Nat} {S : z_S} {sp ga : Int32} {Z : z_Zt} (hc : S.1 3 = nI n) (hn : n ≤ 5) (hf : z_fe n (S.2 8)) (hv : 0 ≤ S.1 2 ∧ S.1 2 ≤ 4) (hz : Z none (z_H (swX S (-(5 * lrF (dN S) n)) 100 ga))) : z_EvM (d + 4) 73 49 [z_p 56, z_p 4] (z_H (swX S sp 100 ga)) Z := by
  have e : legF (S.1 2) 100 (S.2 7) (S.2 8) n = lrF (dN S) n := leg_eq (fun a h1 h2 => (m100 h1 h2).1) hv n hf
  refine z_go (c := 5) (t := z_t49) rfl rfl rfl z_tk49 [] 100 (fun C K R hC hK hR => ?_)
  conv => whnf
  refine hC _ _ _ _ (s_B0_legsOn (S := swX S sp 100 ga) hc hn ?_)
  refine And.intro (fun q => absurd (show (100 : Int32) ≤ 0 from q) (by decide)) (fun _ => ?_)
  have hz2 : Z none (z_H (swX S (-(5 * legF (S.1 2) 100 (S.2 7) (S.2 8) n)) 100 ga)) := by rw [e]; exact hz
  exact hR _ _ rfl hz2
set_option maxRecDepth 20000 in
theorem s_W_pushL {d n : Nat} {S : z_S} {sp ga : Int32} {Z : z_Zt} (hc : S.1 3 = nI n) (hn : n ≤ 5) (hf : z_fe n (S.2 8)) (hv : 0 ≤ S.1 2 ∧ S.1 2 ≤ 4) (hz : Z none (z_H (swX S (5 * llF (dN S) n) (-100) ga))) : z_EvM (d + 4) 73 49 [z_p 56, z_p 4] (z_H (swX S sp (-100) ga)) Z := by
  have e : legF (S.1 2) (-100) (S.2 7) (S.2 8) n = llF (dN S) n := leg_eq (fun a h1 h2 => (m100 h1 h2).2) hv n hf
  refine z_go (c := 5) (t := z_t49) rfl rfl rfl z_tk49 [] 100 (fun C K R hC hK hR => ?_)
  conv => whnf
  refine hC _ _ _ _ (s_B0_legsOn (S := swX S sp (-100) ga) hc hn ?_)
  refine And.intro (fun _ => ?_) (fun q => absurd (show (-100 : Int32) ≤ 0 by decide) q)
  have hz2 : Z none (z_H (swX S (5 * legF (S.1 2) (-100) (S.2 7) (S.2 8) n) (-100) ga)) := by rw [e]; exact hz
  exact hR _ _ rfl hz2
set_option maxRecDepth 20000 in
theorem l_X_up {d n : Nat} {S : z_S} {Z : z_Zt} {ga arm : Int32} (hc : S.1 3 = nI n) (hn : n ≤ 5) (hf : z_fe n (S.2 8)) (hv : 0 ≤ S.1 2 ∧ S.1 2 ≤ 4) : ∀ m t c sp ti, t + m = 201 → (∀ sp' ti', Z (some (.inl (upF (lrF (dN S) n) (llF (dN S) n) ga arm m c sp ti))) (z_H (swX S sp' ti' ga))) → z_Run (d + 5) 73 (z_own 7) z_m84.2.1 z_m84.2.2.1 none (fun v h' => z_nar z_m84.2.2.2.1 v ∧ Z v h') 68 [(0, z_p 0), (2, .inl arm), (3, .inl c), (4, .inl (nI t))] [] (z_H (swX S sp ti ga)) := by
  intro m
  induction m with
  | zero =>
    intro t c sp ti ht hz
    have ht : t = 201 := by omega
    subst ht
    refine z_Run_of z_tk84 [] 60 (fun C K R hC hK hR => ?_)
    refine And.intro (fun q => ?_) (fun q => absurd (by decide) q)
    exact hR _ _ ⟨⟨_, rfl, rfl⟩, hz sp ti⟩
  | succ m ih =>
    intro t c sp ti ht hz
    generalize hti1 : clF (ti + (sp + ga)) = ti1
    have tail : ∀ c', c' = (if opp arm ti1 then c + 1 else c) → z_Run (d + 5) 73 (z_own 7) z_m84.2.1 z_m84.2.2.1 none (fun v h' => z_nar z_m84.2.2.2.1 v ∧ Z v h') 100 [(0, z_p 0), (2, .inl arm), (3, .inl c'), (4, .inl (nI t))] [] (z_H (swX S (sp + ga) ti1 ga)) := by
      intro c' hc'
      refine z_Run_of z_tk84 [(68, [0, 2, 3, 4])] 60 (fun C K R hC hK hR => ?_)
      conv => whnf
      refine hC _ _ _ _ (s_W_isDown (fun r hr => ?_))
      have hr : z_b r (ti1 = 100 ∨ ti1 = -100) := hr
      refine And.intro (fun e => ?_) (fun e => ?_)
      · have hno := zb_f hr e
        have := ih (t + 1) c' (sp + ga) ti1 (by omega) (fun sp' ti' => by
          have := hz sp' ti'
          rw [upF, hti1, if_neg (fun z => hno (Or.inl z)), if_neg (fun z => hno (Or.inr z)), ← hc'] at this
          exact this)
        rw [nI_succ] at this
        exact hK _ _ _ _ this
      · rcases zb_t hr e with e1 | e1
        · subst e1
          conv => whnf
          refine hC _ _ _ _ (s_W_pushR hc hn hf hv ?_)
          have := ih (t + 1) c' (-(5 * lrF (dN S) n)) 100 (by omega) (fun sp' ti' => by
            have := hz sp' ti'
            rw [upF, hti1, if_pos rfl, ← hc'] at this
            exact this)
          rw [nI_succ] at this
          exact hK _ _ _ _ this
        · subst e1
          conv => whnf
          refine hC _ _ _ _ (s_W_pushL hc hn hf hv ?_)
          have := ih (t + 1) c' (5 * llF (dN S) n) (-100) (by omega) (fun sp' ti' => by
            have := hz sp' ti'
            rw [upF, hti1, if_neg (show ¬ (-100 : Int32) = 100 by decide), if_pos rfl, ← hc'] at this
            exact this)
          rw [nI_succ] at this
          exact hK _ _ _ _ this
    refine z_Run_of z_tk84 [(68, [0, 2, 3, 4]), (100, [0, 2, 3, 4])] 60 (fun C K R hC hK hR => ?_)
    refine And.intro (fun q => absurd q (show ¬ (200 : Int32) < nI t from nI_nlt (a := 200) (b := t) (by omega) (by omega))) (fun q => ?_)
    conv => whnf
    refine hC _ _ _ _ (s_W_turn ?_)
    rw [hti1]
    conv => whnf
    refine hC _ _ _ _ (s_X_areOpposite (h := z_H (swX S (sp + ga) ti1 ga)) (fun r hr => ?_))
    have hr : z_b r (opp arm ti1) := zb_if hr
    refine And.intro (fun e => ?_) (fun e => ?_)
    · exact hK _ _ _ _ (tail c (by rw [if_neg (zb_f hr e)]))
    · exact hK _ _ _ _ (tail (c + 1) (by rw [if_pos (zb_t hr e)]))
set_option maxRecDepth 20000 in
theorem l_M_up {d n : Nat} {S D : z_S} {Z : z_Zt} {ga arm : Int32} (hD : z_Rl (S.2 61) D) (hc : D.1 3 = nI n) (hn : n ≤ 5) : ∀ m t c sp ti, t + m = 200 → (∀ sp' ti', Z (some (.inl (upF (lrF D n) (llF D n) ga arm m c sp ti))) (z_H (swM S sp' ti'))) → z_Run (d + 5) 73 (z_own 8) z_m170.2.1 z_m170.2.2.1 none (fun v h' => z_nar z_m170.2.2.2.1 v ∧ Z v h') 69 [(0, z_p 59), (3, .inl arm), (4, .inl ga), (5, .inl c), (6, .inl (nI t))] [] (z_H (swM S sp ti)) := by
  intro m
  induction m with
  | zero =>
    intro t c sp ti ht hz
    have ht : t = 200 := by omega
    subst ht
    refine z_Run_of z_tk170 [] 60 (fun C K R hC hK hR => ?_)
    refine And.intro (fun q => ?_) (fun q => absurd (by decide) q)
    exact hR _ _ ⟨⟨_, rfl, rfl⟩, hz sp ti⟩
  | succ m ih =>
    intro t c sp ti ht hz
    generalize hti1 : clF (ti + (sp + ga)) = ti1
    have tail : ∀ c', c' = (if opp arm ti1 then c + 1 else c) → z_Run (d + 5) 73 (z_own 8) z_m170.2.1 z_m170.2.2.1 none (fun v h' => z_nar z_m170.2.2.2.1 v ∧ Z v h') 115 [(0, z_p 59), (3, .inl arm), (4, .inl ga), (5, .inl c'), (6, .inl (nI t))] [] (z_H (swM S (sp + ga) ti1)) := by
      intro c' hc'
      refine z_Run_of z_tk170 [(69, [0, 3, 4, 5, 6])] 60 (fun C K R hC hK hR => ?_)
      refine And.intro (fun e => ?_) (fun e => ?_)
      · have e : ¬ ti1 = 100 := e
        refine And.intro (fun e2 => ?_) (fun e2 => ?_)
        · have e2 : ¬ ti1 = -100 := e2
          have := ih (t + 1) c' (sp + ga) ti1 (by omega) (fun sp' ti' => by
            have := hz sp' ti'
            rw [upF, hti1, if_neg e, if_neg e2, ← hc'] at this
            exact this)
          rw [nI_succ] at this
          exact hK _ _ _ _ this
        · have e2 : ti1 = -100 := e2
          conv => whnf
          refine hC _ _ _ _ (s_M_legsOn (S := swM S (sp + ga) ti1) hD hc hn ?_)
          have := ih (t + 1) c' (5 * llF D n) ti1 (by omega) (fun sp' ti' => by
            have := hz sp' ti'
            rw [upF, hti1, if_neg e, if_pos e2, ← hc'] at this
            exact this)
          rw [nI_succ] at this
          exact hK _ _ _ _ this
      · have e : ti1 = 100 := e
        conv => whnf
        refine hC _ _ _ _ (s_M_legsOn (S := swM S (sp + ga) ti1) hD hc hn ?_)
        refine And.intro (fun e2 => ?_) (fun e2 => absurd (e.symm.trans e2) (by decide))
        have := ih (t + 1) c' (-(5 * lrF D n)) ti1 (by omega) (fun sp' ti' => by
          have := hz sp' ti'
          rw [upF, hti1, if_pos e, ← hc'] at this
          exact this)
        have e5 : -(5 * lrF D n) = -5 * lrF D n := by grind
        rw [nI_succ, e5] at this
        exact hK _ _ _ _ this
    have no : (¬ opp arm ti1) → c + 0 = (if opp arm ti1 then c + 1 else c) := by
      intro h
      rw [if_neg h]
      grind
    have yes : opp arm ti1 → c + 1 = (if opp arm ti1 then c + 1 else c) := by
      intro h
      rw [if_pos h]
    refine z_Run_of z_tk170 [(69, [0, 3, 4, 5, 6]), (115, [0, 3, 4, 5, 6])] 60 (fun C K R hC hK hR => ?_)
    refine And.intro (fun q => absurd q (show ¬ (200 : Int32) ≤ nI t from nI_ge (a := t) (b := 200) (by omega) (by omega))) (fun q => ?_)
    conv => whnf
    refine hC _ _ _ _ (s_M_goesTenth ?_)
    rw [hti1]
    refine And.intro (fun e1 => ?_) (fun e1 => ?_)
    · refine And.intro (fun e2 => ?_) (fun e2 => ?_)
      · exact hK _ _ _ _ (tail _ (no (fun z => by clear hz hR hC hK ih tail no yes; grind)))
      · refine And.intro (fun e3 => ?_) (fun e3 => ?_)
        · have e3 : ti1 ≤ 0 := e3
          exact hK _ _ _ _ (tail _ (no (fun z => by clear hz hR hC hK ih tail no yes; grind)))
        · have e3 : ¬ ti1 ≤ 0 := e3
          exact hK _ _ _ _ (tail _ (yes (Or.inr ⟨lt_nge e2, lt_nge e3⟩)))
    · refine And.intro (fun e2 => ?_) (fun e2 => ?_)
      · have e2 : ti1 < 0 := e2
        exact hK _ _ _ _ (tail _ (yes (Or.inl ⟨lt_nge e1, e2⟩)))
      · have e2 : ¬ ti1 < 0 := e2
        refine And.intro (fun e3 => ?_) (fun e3 => ?_)
        · exact hK _ _ _ _ (tail _ (no (fun z => by clear hz hR hC hK ih tail no yes; grind)))
        · exact absurd (lt_nge e3) (fun z => by clear hz hR hC hK ih tail no yes; grind)
set_option maxRecDepth 20000 in
theorem s_M_upOk {d n k : Nat} {S D : z_S} {Z : z_Zt} (hD : z_Rl (S.2 61) D) (hc : D.1 3 = nI n) (hn : n ≤ 5) (hk : k < n) (hs : ¬ D.2 3 k = 0) (hz : ∀ sp' ti', Z (some (.inl (upF (lrF D n) (llF D n) (gaF D n) (armF (D.1 2) (D.2 3 k)) 200 0 0 0))) (z_H (swM S sp' ti'))) : z_EvM (d + 5) 73 170 [z_p 59, .inl (nI k)] (z_H S) Z := by
  refine z_go (c := 8) (t := z_t170) rfl rfl rfl z_tk170 [(69, [0, 3, 4, 5, 6])] 60 (fun C K R hC hK hR => ?_)
  conv => whnf
  refine hC _ _ _ _ (s_M_isKidP hD hc hn (fun r1 hr1 => ?_))
  refine And.intro (fun _ => ?_) (fun e => absurd ⟨k, hk, rfl⟩ (zb_f hr1 e))
  conv => whnf
  refine hC _ _ _ _ (s_M_seatN hD (by omega) ?_)
  refine And.intro (fun _ => ?_) (fun e => absurd e hs)
  refine And.intro (fun _ => ?_) (fun e => absurd rfl e)
  conv => whnf
  refine hC _ _ _ _ (s_M_seatN hD (by omega) ?_)
  conv => whnf
  refine hC _ _ _ _ (s_M_armN hD ?_)
  conv => whnf
  refine hC _ _ _ _ (s_M_more hD hc hn ?_)
  refine hK _ _ _ _ ?_
  exact l_M_up (d := d) hD hc hn 200 0 0 0 0 (by omega) hz
set_option maxRecDepth 20000 in
theorem s_M_upNo {d n : Nat} {S D : z_S} {Z : z_Zt} {c : Int32} (hD : z_Rl (S.2 61) D) (hc : D.1 3 = nI n) (hn : n ≤ 5) (hk : ¬ isN c n) (hz : Z (some (.inl (-1))) (z_H (z_rm2 S 1))) : z_EvM (d + 5) 73 170 [z_p 59, .inl c] (z_H S) Z := by
  refine z_go (c := 8) (t := z_t170) rfl rfl rfl z_tk170 [] 100 (fun C K R hC hK hR => ?_)
  conv => whnf
  refine hC _ _ _ _ (s_M_isKidP hD hc hn (fun r1 hr1 => ?_))
  refine And.intro (fun e => absurd (zb_t hr1 e) hk) (fun _ => ?_)
  refine And.intro (fun e => absurd e (by decide)) (fun _ => ?_)
  conv => whnf
  refine hC _ _ _ _ (s_M_refuse (k := 1) (by omega) rfl ?_)
  exact hR _ _ ⟨_, rfl, rfl⟩ hz
set_option maxRecDepth 20000 in
theorem s_M_upSt {d n k : Nat} {S D : z_S} {Z : z_Zt} (hD : z_Rl (S.2 61) D) (hc : D.1 3 = nI n) (hn : n ≤ 5) (hk : k < n) (hs : D.2 3 k = 0) (hz : Z (some (.inl (-3))) (z_H (z_rm2 S 3))) : z_EvM (d + 5) 73 170 [z_p 59, .inl (nI k)] (z_H S) Z := by
  refine z_go (c := 8) (t := z_t170) rfl rfl rfl z_tk170 [] 100 (fun C K R hC hK hR => ?_)
  conv => whnf
  refine hC _ _ _ _ (s_M_isKidP hD hc hn (fun r1 hr1 => ?_))
  refine And.intro (fun _ => ?_) (fun e => absurd ⟨k, hk, rfl⟩ (zb_f hr1 e))
  conv => whnf
  refine hC _ _ _ _ (s_M_seatN hD (by omega) ?_)
  refine And.intro (fun e => absurd hs e) (fun _ => ?_)
  refine And.intro (fun e => absurd e (by decide)) (fun _ => ?_)
  conv => whnf
  refine hC _ _ _ _ (s_M_refuse (k := 3) (by omega) rfl ?_)
  exact hR _ _ ⟨_, rfl, rfl⟩ hz
set_option maxRecDepth 20000 in
theorem op_up (c : Int32) : z_op 84 170 [.inl c] := by
  intro S hI Z hz
  obtain ⟨n, g, u, t, w, hok, hRl, him, htx, hrw, hrf, hpl⟩ := id hI
  obtain ⟨⟨hn, hc⟩, hg, hu, hL, hO, hN, hf, hwe, hdi, hgu⟩ := id hok
  refine z_go (c := 7) (t := z_t84) rfl rfl rfl z_tk84 [(68, [0, 2, 3, 4])] 60 (fun C K R hC hK hR => ?_)
  conv => whnf
  refine hC _ _ _ _ (s_B0_hasChildP hc hn (fun r1 hr1 => ?_))
  refine And.intro (fun e1 => ?_) (fun e1 => ?_)
  · obtain ⟨k, hk, rfl⟩ := zb_t hr1 e1
    have hcl : (nI k).toNatClampNeg = k := nI_clamp (by omega)
    have hin : vp_in (nI k) 5 := vp_in_nI (by omega) (by omega)
    conv => whnf
    refine hC _ _ _ _ (s_B0_sitsP hc hn hk (fun r2 hr2 => ?_))
    refine And.intro (fun e2 => ?_) (fun e2 => ?_)
    · have hs := zb_t hr2 e2
      refine And.intro hin ?_
      conv => whnf
      refine hC _ _ _ _ (s_B0_armOf (fun r3 hr3 => ?_))
      rw [hcl] at hr3
      subst hr3
      conv => whnf
      refine hC _ _ _ _ (s_W_start hc hn hf hN ?_)
      refine hK _ _ _ _ ?_
      refine l_X_up (d := 595) (S := S) hc hn hf hN 200 1 0 0 0 (by omega) (fun sp' ti' => hz _ (swX S sp' ti' (gaF (dN S) n)) (fun Z2 hz2 => ?_))
      exact s_M_upOk (S := swX S sp' ti' (gaF (dN S) n)) (D := dN S) hRl hc hn hk hs (fun a b => hz2 _ _ rfl (Inv_sw hI _ _ _ _ _))
    · have hs : S.2 8 k = 0 := Decidable.not_not.mp (zb_f hr2 e2)
      conv => whnf
      refine hC _ _ _ _ (s_X_refuse 3 (by omega) rfl ?_)
      refine hR _ _ ⟨_, rfl, rfl⟩ (hz _ (z_rx S 3) (fun Z2 hz2 => ?_))
      exact s_M_upSt (S := z_rx S 3) (D := dN S) hRl hc hn hk hs (hz2 _ _ rfl (Inv_ref hI (by omega)))
  · have hno := zb_f hr1 e1
    conv => whnf
    refine hC _ _ _ _ (s_X_refuse 1 (by omega) rfl ?_)
    refine hR _ _ ⟨_, rfl, rfl⟩ (hz _ (z_rx S 1) (fun Z2 hz2 => ?_))
    exact s_M_upNo (S := z_rx S 1) (D := dN S) hRl hc hn hno (hz2 _ _ rfl (Inv_ref hI (by omega)))
