/-! notchBest; how it turns: comesDown, up -/
theorem abs_eq (x : Int32) : (if 0 ≤ x then x else 0 - x) = absF x := by
  unfold absF
  grind
def nbF (tb : Nat → Int32) : Nat → Nat → Nat → Int32
  | 0, _, b => nI b
  | m + 1, v, b => if tb v < tb b then nbF tb m (v + 1) v else nbF tb m (v + 1) b
def nbT (D : z_S) (n : Nat) (v : Nat) : Int32 := absF (sumF (D.1 1) (nI v) (D.2 0) (D.2 1) (D.2 3) n)
theorem nI_04 {v : Nat} (h : v ≤ 4) : (0 : Int32) ≤ nI v ∧ nI v ≤ 4 := ⟨nI_pos' (by omega), nI_le (a := v) (b := 4) h (by omega)⟩
set_option maxRecDepth 20000 in
theorem l_X_notchBest {d n : Nat} {S : z_S} {Z : z_Zt} (hc : S.1 3 = nI n) (hn : n ≤ 5) (hf : z_fe n (S.2 8)) : ∀ m v b, v + m = 5 → b ≤ 4 → Z (some (.inl (nbF (nbT (dN S) n) m v b))) (z_H S) → z_Run (d + 5) 73 (z_own 7) z_m75.2.1 z_m75.2.2.1 none (fun v h' => z_nar z_m75.2.2.2.1 v ∧ Z v h') 4 [(0, z_p 0), (1, .inl (nI b)), (2, .inl (nI v))] [] (z_H S) := by
  intro m
  induction m with
  | zero =>
    intro v b hv hb hz
    have hv : v = 5 := by omega
    subst hv
    refine z_Run_of z_tk75 [] 60 (fun C K R hC hK hR => ?_)
    refine And.intro (fun q => ?_) (fun q => absurd (by decide) q)
    exact hR _ _ ⟨⟨_, rfl, rfl⟩, hz⟩
  | succ m ih =>
    intro v b hv hb hz
    refine z_Run_of z_tk75 [(4, [0, 1, 2])] 60 (fun C K R hC hK hR => ?_)
    refine And.intro (fun q => absurd q (show ¬ (4 : Int32) < nI v from nI_nlt (a := 4) (b := v) (by omega) (by omega))) (fun q => ?_)
    conv => whnf
    refine hC _ _ _ _ (s_B0_turnedBy hc hn hf (nI_04 (by omega)) ?_)
    conv => whnf
    refine hC _ _ _ _ (s_B0_turnedBy hc hn hf (nI_04 hb) ?_)
    refine And.intro (fun e => ?_) (fun e => ?_)
    · rw [abs_eq, abs_eq] at e
      rw [nbF, if_neg (show ¬ nbT (dN S) n v < nbT (dN S) n b from fun z => nlt_le e z)] at hz
      have := ih (v + 1) b (by omega) hb hz
      rw [nI_succ] at this
      exact hK _ _ _ _ this
    · rw [abs_eq, abs_eq] at e
      rw [nbF, if_pos (show nbT (dN S) n v < nbT (dN S) n b from lt_nge e)] at hz
      have := ih (v + 1) v (by omega) (by omega) hz
      rw [nI_succ] at this
      exact hK _ _ _ _ this
def dV (D : z_S) (v : Int32) : z_S := (fun j => if j = 2 then v else D.1 j, D.2)
theorem dV_Rl {s : Nat → Int32} {D : z_S} (h : z_Rl s D) (v : Int32) : z_Rl (upd s 2 v) (dV D v) := Rl_sc h 2 (by omega) v rfl (fun i hi hne => if_neg hne) (fun r hr => rfl)
theorem dV_Rl2 {s : Nat → Int32} {D : z_S} {v : Int32} (h : z_Rl s (dV D v)) (x : Int32) : z_Rl (upd s 2 x) (dV D x) := Rl_sc h 2 (by omega) x rfl (fun i hi hne => (if_neg hne).trans (if_neg hne).symm) (fun r hr => rfl)
set_option maxRecDepth 20000 in
theorem l_M_notchBest {d n : Nat} {S D : z_S} {Z : z_Zt} {was : Int32} (hc : D.1 3 = nI n) (hn : n ≤ 5) : ∀ m v b (f : Nat → Int32) (y : Int32), v + m = 5 → 1 ≤ v → b ≤ 4 → z_Rl f (dV D y) → (∀ i, ¬ i = 2 → f i = S.2 61 i) → (∀ f', f' 2 = was → (∀ i, ¬ i = 2 → f' i = S.2 61 i) → Z (some (.inl (nbF (nbT D n) m v b))) (z_H (z_w S 61 f'))) → z_Run (d + 5) 73 (z_own 8) z_m151.2.1 z_m151.2.2.1 none (fun v h' => z_nar z_m151.2.2.2.1 v ∧ Z v h') 14 [(0, z_p 59), (1, .inl was), (2, .inl (nI b)), (3, .inl (nbT D n b)), (4, .inl (nI v))] [] (z_H (z_w S 61 f)) := by
  intro m
  induction m with
  | zero =>
    intro v b f y hv h1 hb hD hf hz
    have hv : v = 5 := by omega
    subst hv
    refine z_Run_of z_tk151 [] 60 (fun C K R hC hK hR => ?_)
    refine And.intro (fun q => ?_) (fun q => absurd (by decide) q)
    refine And.intro (vp_in_iff.mpr (by decide)) ?_
    exact hR _ _ ⟨⟨_, rfl, rfl⟩, hz (upd f 2 was) pk_us (fun i hi => by rw [pk_un hi, hf i hi])⟩
  | succ m ih =>
    intro v b f y hv h1 hb hD hf hz
    refine z_Run_of z_tk151 [(14, [0, 1, 2, 3, 4])] 60 (fun C K R hC hK hR => ?_)
    refine And.intro (fun q => absurd q (show ¬ (5 : Int32) ≤ nI v from nI_ge (a := v) (b := 5) (by omega) (by omega))) (fun q => ?_)
    refine And.intro (vp_in_iff.mpr (by decide)) ?_
    have hD2 : z_Rl (upd f 2 (nI v)) (dV D (nI v)) := dV_Rl2 hD (nI v)
    conv => whnf
    refine hC _ _ _ _ (s_M_sumNow (S := z_w S 61 (upd f 2 (nI v))) (D := dV D (nI v)) hD2 hc hn ?_)
    conv => whnf
    refine hC _ _ _ _ (s_M_amount (h := z_H (z_w S 61 (upd f 2 (nI v)))) (fun r hr => ?_))
    have er : r = nbT D n v := hr
    subst er
    have hf2 : ∀ i, ¬ i = 2 → upd f 2 (nI v) i = S.2 61 i := fun i hi => by rw [pk_un hi, hf i hi]
    have take : nbT D n v < nbT D n b → z_Run (d + 5) 73 (z_own 8) z_m151.2.1 z_m151.2.2.1 none (fun v h' => z_nar z_m151.2.2.2.1 v ∧ Z v h') 14 [(0, z_p 59), (1, .inl was), (2, .inl (nI v)), (3, .inl (nbT D n v)), (4, .inl (nI v + 1))] [] (z_H (z_w S 61 (upd f 2 (nI v)))) := by
      intro e
      have := ih (v + 1) v _ _ (by omega) (by omega) (by omega) hD2 hf2 (fun f' g1 g2 => by have := hz f' g1 g2; rw [nbF, if_pos e] at this; exact this)
      rw [nI_succ] at this
      exact this
    refine And.intro (fun q2 => absurd q2 (nI_nle (by omega) (by omega))) (fun q2 => ?_)
    refine And.intro (fun e => ?_) (fun e => ?_)
    · exact hK _ _ _ _ (take e)
    · have := ih (v + 1) b _ _ (by omega) (by omega) hb hD2 hf2 (fun f' g1 g2 => by have := hz f' g1 g2; rw [nbF, if_neg e] at this; exact this)
      rw [nI_succ] at this
      exact hK _ _ _ _ this
set_option maxRecDepth 20000 in
theorem s_M_notchBest {d n : Nat} {S D : z_S} {Z : z_Zt} (hD : z_Rl (S.2 61) D) (hc : D.1 3 = nI n) (hn : n ≤ 5) (hz : ∀ f', (∀ i, f' i = S.2 61 i) → Z (some (.inl (nbF (nbT D n) 4 1 0))) (z_H (z_w S 61 f'))) : z_EvM (d + 5) 73 151 [z_p 59] (z_H S) Z := by
  refine z_go (c := 8) (t := z_t151) rfl rfl rfl z_tk151 [(14, [0, 1, 2, 3, 4])] 60 (fun C K R hC hK hR => ?_)
  refine And.intro (vp_in_iff.mpr (by decide)) ?_
  refine hK _ _ _ _ ?_
  refine z_Run_of z_tk151 [(14, [0, 1, 2, 3, 4])] 60 (fun C K R hC hK hR => ?_)
  refine And.intro (fun q => absurd q (by decide)) (fun q => ?_)
  refine And.intro (vp_in_iff.mpr (by decide)) ?_
  have hD2 : z_Rl (upd (S.2 61) 2 0) (dV D 0) := dV_Rl hD 0
  conv => whnf
  refine hC _ _ _ _ (s_M_sumNow (S := z_w S 61 (upd (S.2 61) 2 0)) (D := dV D 0) hD2 hc hn ?_)
  conv => whnf
  refine hC _ _ _ _ (s_M_amount (h := z_H (z_w S 61 (upd (S.2 61) 2 0))) (fun r hr => ?_))
  have er : r = nbT D n 0 := hr
  subst er
  refine And.intro (fun q2 => ?_) (fun q2 => absurd (by decide) q2)
  refine hK _ _ _ _ ?_
  exact l_M_notchBest (d := d) (S := S) (D := D) (was := S.2 61 2) hc hn 4 1 0 _ 0 (by omega) (by omega) (by omega) hD2 (fun i hi => pk_un hi) (fun f' g1 g2 => hz f' (fun i => by
    by_cases e : i = 2
    · subst e; exact g1
    · exact g2 i e))
theorem dq_rf (D : z_S) : z_dq D D := ⟨fun _ _ => rfl, fun _ _ _ _ => rfl, fun _ _ _ _ => rfl, fun _ _ _ _ => rfl⟩
theorem Inv_s61 {S : z_S} {f : Nat → Int32} (hI : Inv S) (hf : ∀ i, i < 90 → f i = S.2 61 i) : Inv (z_w S 61 f) := by
  obtain ⟨n, g, u, t, w, hok, hRl, him, htx, hrw, hrf, hpl⟩ := hI
  exact ⟨n, g, u, t, w, hok, dq_Rl hRl hf (dq_rf _), him, htx, hrw, hrf, hpl⟩
set_option maxRecDepth 20000 in
theorem op_notchBest : z_op 75 151 [] := by
  intro S hI Z hz
  obtain ⟨n, g, u, t, w, hok, hRl, him, htx, hrw, hrf, hpl⟩ := id hI
  obtain ⟨⟨hn, hc⟩, hg, hu, hL, hO, hN, hf, hwe, hdi, hgu⟩ := id hok
  refine z_go (c := 7) (t := z_t75) rfl rfl rfl z_tk75 [(4, [0, 1, 2])] 60 (fun C K R hC hK hR => ?_)
  refine hK _ _ _ _ ?_
  refine l_X_notchBest (d := 595) (S := S) hc hn hf 4 1 0 (by omega) (by omega) (hz _ S (fun Z2 hz2 => ?_))
  exact s_M_notchBest hRl hc hn (fun f' hf' => hz2 _ _ rfl (Inv_s61 hI (fun i _ => hf' i)))
/-! the swing -/
def clF (t : Int32) : Int32 := if 100 < t then 100 else if t < -100 then -100 else t
def ineF (D : z_S) (n : Nat) : Int32 := if inrF (D.1 1) (D.1 2) (D.2 1) (D.2 3) n < 1 then 1 else inrF (D.1 1) (D.1 2) (D.2 1) (D.2 3) n
def gaF (D : z_S) (n : Nat) : Int32 := 10 * sumF (D.1 1) (D.1 2) (D.2 0) (D.2 1) (D.2 3) n / ineF D n
theorem ine_pos (D : z_S) (n : Nat) : 1 ≤ ineF D n := by
  unfold ineF
  grind
def swX (S : z_S) (sp ti ga : Int32) : z_S := z_u (z_u (z_u S 31 sp) 32 ti) 33 ga
def swM (S : z_S) (sp ti : Int32) : z_S := z_u (z_u S 46 sp) 47 ti
set_option maxRecDepth 20000 in
theorem s_W_start {d n : Nat} {S : z_S} {Z : z_Zt} (hc : S.1 3 = nI n) (hn : n ≤ 5) (hf : z_fe n (S.2 8)) (hv : 0 ≤ S.1 2 ∧ S.1 2 ≤ 4) (hz : Z none (z_H (swX S 0 0 (gaF (dN S) n)))) : z_EvM (d + 6) 73 46 [z_p 56, z_p 4] (z_H S) Z := by
  refine z_go (c := 5) (t := z_t46) rfl rfl rfl z_tk46 [] 100 (fun C K R hC hK hR => ?_)
  conv => whnf
  refine hC _ _ _ _ (s_B0_turned (S := z_u (z_u S 31 0) 32 0) hc hn hf hv ?_)
  conv => whnf
  refine hC _ _ _ _ (s_B0_slowness (S := z_u (z_u S 31 0) 32 0) hc hn (fun r hr => ?_))
  have er : r = ineF (dN S) n := hr
  subst er
  have h1 := ine_pos (dN S) n
  have e1 : (if 1 < ineF (dN S) n then ineF (dN S) n else 1) = ineF (dN S) n := by grind
  refine And.intro (show ¬ (if 1 < ineF (dN S) n then ineF (dN S) n else 1) = 0 by rw [e1]; grind) ?_
  have hz' : Z none (z_H (swX S 0 0 (10 * sumF (S.1 1) (S.1 2) (S.2 5) (S.2 6) (S.2 8) n / (if 1 < ineF (dN S) n then ineF (dN S) n else 1)))) := by
    rw [e1]
    exact hz
  exact hR _ _ rfl hz'
theorem cl_eq (t : Int32) : (if (-100 : Int32) < (if t < 100 then t else 100) then (if t < 100 then t else 100) else -100) = clF t := by
  unfold clF
  grind
set_option maxRecDepth 20000 in
theorem s_W_turn {d : Nat} {S : z_S} {sp ti ga : Int32} {Z : z_Zt} (hz : Z none (z_H (swX S (sp + ga) (clF (ti + (sp + ga))) ga))) : z_EvM (d + 1) 73 47 [z_p 56] (z_H (swX S sp ti ga)) Z := by
  refine z_go (c := 5) (t := z_t47) rfl rfl rfl z_tk47 [] 100 (fun C K R hC hK hR => ?_)
  rw [← cl_eq] at hz
  exact hR _ _ rfl hz
set_option maxRecDepth 20000 in
theorem s_W_isDown {d : Nat} {S : z_S} {Z : z_Zt} (hz : ∀ r : Int32, z_b r (S.1 32 = 100 ∨ S.1 32 = -100) → Z (some (.inl r)) (z_H S)) : z_EvM (d + 1) 73 48 [z_p 56] (z_H S) Z := by
  refine z_go (c := 5) (t := z_t48) rfl rfl rfl z_tk48 [] 100 (fun C K R hC hK hR => ?_)
  refine And.intro (fun q => ?_) (fun q => And.intro (fun q2 => ?_) (fun q2 => ?_))
  · exact hR _ _ ⟨_, rfl, rfl⟩ (hz _ (Or.inl ⟨rfl, Or.inl q⟩))
  · exact hR _ _ ⟨_, rfl, rfl⟩ (hz _ (Or.inr ⟨rfl, fun z => z.elim q q2⟩))
  · exact hR _ _ ⟨_, rfl, rfl⟩ (hz _ (Or.inl ⟨rfl, Or.inr q2⟩))
def cdF (ga w : Int32) : Nat → Nat → Int32 → Int32 → Int32
  | 0, _, _, _ => -9
  | m + 1, t, sp, ti => if clF (ti + (sp + ga)) = 100 ∨ clF (ti + (sp + ga)) = -100 then (if w = 0 then nI t else absF (sp + ga)) else cdF ga w m (t + 1) (sp + ga) (clF (ti + (sp + ga)))
set_option maxRecDepth 20000 in
theorem l_X_comesDown {d : Nat} {S : z_S} {Z : z_Zt} {ga w : Int32} : ∀ m t sp ti, t + m = 201 → (∀ sp' ti', Z (some (.inl (cdF ga w m t sp ti))) (z_H (swX S sp' ti' ga))) → z_Run (d + 2) 73 (z_own 7) z_m83.2.1 z_m83.2.2.1 none (fun v h' => z_nar z_m83.2.2.2.1 v ∧ Z v h') 29 [(0, z_p 0), (1, .inl w), (2, .inl (nI t))] [] (z_H (swX S sp ti ga)) := by
  intro m
  induction m with
  | zero =>
    intro t sp ti ht hz
    have ht : t = 201 := by omega
    subst ht
    refine z_Run_of z_tk83 [] 60 (fun C K R hC hK hR => ?_)
    refine And.intro (fun q => ?_) (fun q => absurd (by decide) q)
    exact hR _ _ ⟨⟨_, rfl, rfl⟩, hz sp ti⟩
  | succ m ih =>
    intro t sp ti ht hz
    refine z_Run_of z_tk83 [(29, [0, 1, 2])] 60 (fun C K R hC hK hR => ?_)
    refine And.intro (fun q => absurd q (show ¬ (200 : Int32) < nI t from nI_nlt (a := 200) (b := t) (by omega) (by omega))) (fun q => ?_)
    conv => whnf
    refine hC _ _ _ _ (s_W_turn ?_)
    conv => whnf
    refine hC _ _ _ _ (s_W_isDown (fun r hr => ?_))
    refine And.intro (fun e => ?_) (fun e => ?_)
    · have hno : ¬ (clF (ti + (sp + ga)) = 100 ∨ clF (ti + (sp + ga)) = -100) := zb_f hr e
      have := ih (t + 1) (sp + ga) (clF (ti + (sp + ga))) (by omega) (fun sp' ti' => by have := hz sp' ti'; rw [cdF, if_neg hno] at this; exact this)
      rw [nI_succ] at this
      exact hK _ _ _ _ this
    · have hyes : clF (ti + (sp + ga)) = 100 ∨ clF (ti + (sp + ga)) = -100 := zb_t hr e
      have hz2 := hz (sp + ga) (clF (ti + (sp + ga)))
      rw [cdF, if_pos hyes] at hz2
      refine And.intro (fun q2 => ?_) (fun q2 => ?_)
      · rw [if_neg q2, ← abs_eq] at hz2
        exact hR _ _ ⟨⟨_, rfl, rfl⟩, hz2⟩
      · rw [if_pos q2] at hz2
        exact hR _ _ ⟨⟨_, rfl, rfl⟩, hz2⟩
set_option maxRecDepth 20000 in
theorem s_M_goesTenth {d : Nat} {S : z_S} {sp ti ga : Int32} {Z : z_Zt} (hz : Z none (z_H (swM S (sp + ga) (clF (ti + (sp + ga)))))) : z_EvM (d + 1) 73 166 [z_p 59, .inl ga] (z_H (swM S sp ti)) Z := by
  refine z_go (c := 8) (t := z_t166) rfl rfl rfl z_tk166 [] 100 (fun C K R hC hK hR => ?_)
  refine And.intro (fun q => And.intro (fun q2 => ?_) (fun q2 => ?_)) (fun q => ?_)
  · have q : ti + (sp + ga) ≤ 100 := q
    have q2 : -100 ≤ ti + (sp + ga) := q2
    have e : clF (ti + (sp + ga)) = ti + (sp + ga) := by
      unfold clF
      rw [if_neg (nlt_le q), if_neg (nlt_le q2)]
    rw [e] at hz
    exact hR _ _ rfl hz
  · have q : ti + (sp + ga) ≤ 100 := q
    have q2 : ¬ -100 ≤ ti + (sp + ga) := q2
    have e : clF (ti + (sp + ga)) = -100 := by
      unfold clF
      rw [if_neg (nlt_le q), if_pos (lt_nge q2)]
    rw [e] at hz
    exact hR _ _ rfl hz
  · have q : ¬ ti + (sp + ga) ≤ 100 := q
    have e : clF (ti + (sp + ga)) = 100 := by
      unfold clF
      rw [if_pos (lt_nge q)]
    rw [e] at hz
    exact hR _ _ rfl hz
set_option maxRecDepth 20000 in
theorem s_M_more {d n : Nat} {S D : z_S} {Z : z_Zt} (hD : z_Rl (S.2 61) D) (hc : D.1 3 = nI n) (hn : n ≤ 5) (hz : Z (some (.inl (gaF D n))) (z_H S)) : z_EvM (d + 4) 73 167 [z_p 59] (z_H S) Z := by
  refine z_go (c := 8) (t := z_t167) rfl rfl rfl z_tk167 [] 100 (fun C K R hC hK hR => ?_)
  conv => whnf
  refine hC _ _ _ _ (s_M_sumNow hD hc hn ?_)
  conv => whnf
  refine hC _ _ _ _ (s_M_inertiaNow hD hc hn (fun r hr => ?_))
  have er : r = ineF D n := hr
  subst er
  have h1 := ine_pos D n
  refine And.intro (show ¬ ineF D n = 0 by grind) ?_
  exact hR _ _ ⟨_, rfl, rfl⟩ hz
set_option maxRecDepth 20000 in
theorem l_M_comesDown {d : Nat} {S : z_S} {Z : z_Zt} {ga w : Int32} : ∀ m t sp ti, t + m = 201 → (∀ sp' ti', Z (some (.inl (cdF ga w m t sp ti))) (z_H (swM S sp' ti'))) → z_Run (d + 2) 73 (z_own 8) z_m168.2.1 z_m168.2.2.1 none (fun v h' => z_nar z_m168.2.2.2.1 v ∧ Z v h') 32 [(0, z_p 59), (1, .inl w), (2, .inl ga), (3, .inl (nI t))] [] (z_H (swM S sp ti)) := by
  intro m
  induction m with
  | zero =>
    intro t sp ti ht hz
    have ht : t = 201 := by omega
    subst ht
    refine z_Run_of z_tk168 [] 60 (fun C K R hC hK hR => ?_)
    refine And.intro (fun q => ?_) (fun q => absurd (by decide) q)
    exact hR _ _ ⟨⟨_, rfl, rfl⟩, hz sp ti⟩
  | succ m ih =>
    intro t sp ti ht hz
    refine z_Run_of z_tk168 [(32, [0, 1, 2, 3])] 60 (fun C K R hC hK hR => ?_)
    refine And.intro (fun q => absurd q (show ¬ (200 : Int32) < nI t from nI_nlt (a := 200) (b := t) (by omega) (by omega))) (fun q => ?_)
    conv => whnf
    refine hC _ _ _ _ (s_M_goesTenth ?_)
    conv => whnf
    refine hC _ _ _ _ (s_M_amount (h := z_H (swM S (sp + ga) (clF (ti + (sp + ga))))) (fun r hr => ?_))
    have hr : r = absF (clF (ti + (sp + ga))) := hr
    refine And.intro (fun e => ?_) (fun e => ?_)
    · have hno : ¬ (clF (ti + (sp + ga)) = 100 ∨ clF (ti + (sp + ga)) = -100) := by
        rw [hr] at e
        unfold absF at e
        clear hz hR hC hK ih
        grind
      have := ih (t + 1) (sp + ga) (clF (ti + (sp + ga))) (by omega) (fun sp' ti' => by have := hz sp' ti'; rw [cdF, if_neg hno] at this; exact this)
      rw [nI_succ] at this
      exact hK _ _ _ _ this
    · have hyes : clF (ti + (sp + ga)) = 100 ∨ clF (ti + (sp + ga)) = -100 := by
        rw [hr] at e
        unfold absF at e
        clear hz hR hC hK ih
        grind
      have hz2 := hz (sp + ga) (clF (ti + (sp + ga)))
      rw [cdF, if_pos hyes] at hz2
      refine And.intro (fun q2 => ?_) (fun q2 => ?_)
      · conv => whnf
        refine hC _ _ _ _ (s_M_amount (h := z_H (swM S (sp + ga) (clF (ti + (sp + ga))))) (fun r2 hr2 => ?_))
        have hr2 : r2 = absF (sp + ga) := hr2
        subst hr2
        rw [if_neg q2] at hz2
        exact hR _ _ ⟨⟨_, rfl, rfl⟩, hz2⟩
      · rw [if_pos q2] at hz2
        exact hR _ _ ⟨⟨_, rfl, rfl⟩, hz2⟩
set_option maxRecDepth 20000 in
theorem s_M_comesDown {d n : Nat} {S D : z_S} {Z : z_Zt} {w : Int32} (hD : z_Rl (S.2 61) D) (hc : D.1 3 = nI n) (hn : n ≤ 5) (hw : isN w 2) (hz : ∀ sp' ti', Z (some (.inl (cdF (gaF D n) w 200 1 0 0))) (z_H (swM S sp' ti'))) : z_EvM (d + 5) 73 168 [z_p 59, .inl w] (z_H S) Z := by
  refine z_go (c := 8) (t := z_t168) rfl rfl rfl z_tk168 [(32, [0, 1, 2, 3])] 60 (fun C K R hC hK hR => ?_)
  conv => whnf
  refine hC _ _ _ _ (s_M_isInP 2 (by omega) rfl (fun r hr => ?_))
  refine And.intro (fun _ => ?_) (fun e => absurd hw (zb_f hr e))
  conv => whnf
  refine hC _ _ _ _ (s_M_more (S := swM S 0 0) hD hc hn ?_)
  exact hK _ _ _ _ (l_M_comesDown (d := d + 3) 200 1 0 0 (by omega) hz)
set_option maxRecDepth 20000 in
theorem s_M_comesDownNo {d : Nat} {S : z_S} {Z : z_Zt} {w : Int32} (hw : ¬ isN w 2) (hz : Z (some (.inl (-2))) (z_H (z_rm2 S 2))) : z_EvM (d + 5) 73 168 [z_p 59, .inl w] (z_H S) Z := by
  refine z_go (c := 8) (t := z_t168) rfl rfl rfl z_tk168 [] 100 (fun C K R hC hK hR => ?_)
  conv => whnf
  refine hC _ _ _ _ (s_M_isInP 2 (by omega) rfl (fun r hr => ?_))
  refine And.intro (fun e => absurd (zb_t hr e) hw) (fun _ => ?_)
  conv => whnf
  refine hC _ _ _ _ (s_M_refuse (k := 2) (by omega) rfl ?_)
  exact hR _ _ ⟨_, rfl, rfl⟩ hz
theorem isN2 {w : Int32} : isN w 2 ↔ (w = 0 ∨ w = 1) := by
  constructor
  · intro h
    obtain ⟨k, hk, rfl⟩ := h
    rcases k with _ | _ | k
    · exact Or.inl rfl
    · exact Or.inr rfl
    · omega
  · intro h
    rcases h with rfl | rfl
    · exact ⟨0, by omega, rfl⟩
    · exact ⟨1, by omega, rfl⟩
theorem Inv_sw {S : z_S} (hI : Inv S) (a b c e f : Int32) : Inv (swM (swX S a b c) e f) := by
  obtain ⟨n, g, u, t, w, hok, hRl, him, htx, hrw, hrf, hpl⟩ := hI
  exact ⟨n, g, u, t, w, hok, hRl, him, htx, hrw, hrf, hpl⟩
set_option maxRecDepth 20000 in
theorem op_comesDown (w : Int32) : z_op 83 168 [.inl w] := by
  intro S hI Z hz
  obtain ⟨n, g, u, t, ww, hok, hRl, him, htx, hrw, hrf, hpl⟩ := id hI
  obtain ⟨⟨hn, hc⟩, hg, hu, hL, hO, hN, hf, hwe, hdi, hgu⟩ := id hok
  have main : isN w 2 → z_Run 600 73 (z_own 7) z_m83.2.1 z_m83.2.2.1 none (fun v h' => z_nar z_m83.2.2.2.1 v ∧ Z v h') 16 [(0, z_p 0), (1, .inl w)] [] (z_H S) := by
    intro hw
    refine z_Run_of z_tk83 [(29, [0, 1, 2])] 60 (fun C K R hC hK hR => ?_)
    conv => whnf
    refine hC _ _ _ _ (s_W_start hc hn hf hN ?_)
    refine hK _ _ _ _ (l_X_comesDown (d := 598) 200 1 0 0 (by omega) (fun sp' ti' => hz _ (swX S sp' ti' (gaF (dN S) n)) (fun Z2 hz2 => ?_)))
    exact s_M_comesDown (S := swX S sp' ti' (gaF (dN S) n)) (D := dN S) hRl hc hn hw (fun a b => hz2 _ _ rfl (Inv_sw hI _ _ _ _ _))
  refine z_go (c := 7) (t := z_t83) rfl rfl rfl z_tk83 [(16, [0, 1])] 60 (fun C K R hC hK hR => ?_)
  refine And.intro (fun q => hK _ _ _ _ (main (isN2.mpr (Or.inl q)))) (fun q => And.intro (fun q2 => hK _ _ _ _ (main (isN2.mpr (Or.inr q2)))) (fun q2 => ?_))
  conv => whnf
  refine hC _ _ _ _ (s_X_refuse 2 (by omega) rfl ?_)
  refine hR _ _ ⟨_, rfl, rfl⟩ (hz _ (z_rx S 2) (fun Z2 hz2 => ?_))
  exact s_M_comesDownNo (fun z => (isN2.mp z).elim q q2) (hz2 _ _ rfl (Inv_ref hI (by omega)))
