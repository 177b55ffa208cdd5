/-! orders, order, leastBang -/
theorem oL_P {bang worst : Int32} {at' : Nat → Int32} {a : z_Oa} (hw : ¬ worst < 0) : ¬ (oL bang worst at' a).2.1 = -9 := by
  show ¬ (if a.2.1 = -9 ∨ worst < a.2.1 then worst else a.2.1) = -9
  by_cases z : a.2.1 = -9 ∨ worst < a.2.1
  · rw [if_pos z]
    intro e
    rw [e] at hw
    exact hw (by decide)
  · rw [if_neg z]
    exact fun e => z (Or.inl e)
theorem itF_P {A : Type} {P : A → Prop} {g : A → Nat → A} (h : ∀ a s, P a → P (g a s)) : ∀ k s a, P a → P (itF g k s a) := by
  intro k
  induction k with
  | zero => intro s a ha; exact ha
  | succ k ih => intro s a ha; rw [itF_S]; exact ih _ _ (h a s ha)
theorem itF_ex {A : Type} {P : A → Prop} {g : A → Nat → A} (h : ∀ a s, P a → P (g a s)) {s0 : Nat} (h0 : ∀ a, P (g a s0)) : ∀ k s a, s ≤ s0 → s0 < s + k → P (itF g k s a) := by
  intro k
  induction k with
  | zero => intro s a h1 h2; omega
  | succ k ih =>
    intro s a h1 h2
    rw [itF_S]
    by_cases e : s = s0
    · subst e
      exact itF_P h _ _ _ (h0 a)
    · exact ih _ _ (by omega) (by omega)
theorem orF_P (n : Nat) (fe : Nat → Int32) (turn : Nat → Int32) (bang : Int32) : ∀ m j at' sum worst (a : z_Oa), ¬ worst < 0 → ¬ a.2.1 = -9 → ¬ (orF n fe turn bang m j at' sum worst a).2.1 = -9 := by
  intro m
  induction m with
  | zero => intro j at' sum worst a hw _; exact oL_P hw
  | succ m ih =>
    intro j at' sum worst a hw ha
    rw [orF_S2]
    refine itF_P (P := fun b : z_Oa => ¬ b.2.1 = -9) (fun b s hb => ?_) _ _ _ ha
    show ¬ (orG n fe turn bang m j at' sum worst b (sI fe n s)).2.1 = -9
    rw [orG]
    split
    · exact hb
    · exact ih _ _ _ _ _ (mx_nn hw) hb
theorem orF_ex {n : Nat} (hn : n ≤ 5) (fe : Nat → Int32) (turn : Nat → Int32) (bang : Int32) : ∀ m j at' sum worst (a : z_Oa), j + m = cM fe n → (∀ k, k < j → at' k = nI (sI fe n k)) → ¬ worst < 0 → ¬ (orF n fe turn bang m j at' sum worst a).2.1 = -9 := by
  intro m
  induction m with
  | zero => intro j at' sum worst a _ _ hw; exact oL_P hw
  | succ m ih =>
    intro j at' sum worst a hj hat hw
    rw [orF_S2]
    refine itF_ex (P := fun b : z_Oa => ¬ b.2.1 = -9) (s0 := j) (fun b s hb => ?_) (fun b => ?_) _ _ _ (by omega) (by omega)
    · show ¬ (orG n fe turn bang m j at' sum worst b (sI fe n s)).2.1 = -9
      rw [orG]
      split
      · exact hb
      · exact orF_P n fe turn bang m _ _ _ _ _ (mx_nn hw) hb
    · show ¬ (orG n fe turn bang m j at' sum worst b (sI fe n j)).2.1 = -9
      have hu : ¬ usedF j at' (nI (sI fe n j)) = true := by
        rw [used_iff]
        intro ⟨i, hi, e⟩
        rw [hat i hi] at e
        have l1 := (sI_in fe n i (by omega)).1
        have l2 := (sI_in fe n j (by omega)).1
        have := sI_inj (by omega) (by omega) ((nI_eq (by omega) (by omega)).mp e)
        omega
      rw [orG, if_neg hu]
      refine ih (j + 1) _ _ _ _ (by omega) (fun k hk => ?_) (mx_nn hw)
      by_cases q : k = j
      · subst q; exact pk_us
      · rw [pk_un q]; exact hat k (by omega)
theorem orD_ex (D : z_S) {n : Nat} (hn : n ≤ 5) (bang : Int32) : ¬ (orD D n bang).2.1 = -9 := orF_ex hn _ _ _ _ _ _ _ _ _ (by omega) (fun k hk => by omega) (by decide)
section
variable {d n : Nat} {S D : z_S} {Z : z_Zt} {bang : Int32}
set_option maxRecDepth 20000 in
theorem s_M_findsOrders (hD : z_Rl (S.2 61) D) (hc : D.1 3 = nI n) (hn : n ≤ 5) (hz : ∀ q lb fo tr, mR (cM (D.2 3) n) 3125 (orD D n bang) q lb fo → Z none (z_H (moS S q lb fo tr))) : z_EvM (d + 11) 73 154 [z_p 59, .inl bang] (z_H S) Z := by
  have hM5 : cM (D.2 3) n ≤ n := cM_le _ n
  have p5 := pow5 (n := cM (D.2 3) n) (by omega)
  refine z_go (c := 8) (t := z_t154) rfl rfl rfl z_tk154 [] 100 (fun C K R hC hK hR => ?_)
  conv => whnf
  refine hC _ _ _ _ (s_M_bare (S := z_u (z_u S 44 0) 45 (-9)) (fun r hr => ?_))
  have hr : r = ownF (D.1 1) (D.1 2) := by
    rw [hr]
    show 0 + ownF (S.2 61 1) (S.2 61 2) = _
    rw [hD.1 1 (by omega), hD.1 2 (by omega)]
    grind
  subst hr
  have go := s_M_gets (S := S) (D := D) (n := n) (bang := bang) hD hc hn (cM (D.2 3) n) 0 (d + 10) (by omega) (by omega)
  conv => whnf
  refine hC _ _ _ _ (go 0 0 (fun _ => 0) (ownF (D.1 1) (D.1 2)) 0 (0, -9, fun _ => 0) 0 (-9) (S.2 69) (S.2 66) _ (mk2_0 _ _ _) (fun k hk => by omega) ⟨rfl, by omega, rfl, Or.inl rfl, Or.inl rfl⟩ (by decide) (by omega) (fun q lb fo tr g1 g2 => ?_))
  exact hR _ _ rfl (hz q lb fo tr (mR_mono g1 (by omega)))
set_option maxRecDepth 20000 in
theorem s_M_ordersOk (hD : z_Rl (S.2 61) D) (hc : D.1 3 = nI n) (hn : n ≤ 5) (hb : ¬ bang < 0) (hz : ∀ q lb fo tr, q = nI (orD D n bang).1 → Z (some (.inl q)) (z_H (moS S q lb fo tr))) : z_EvM (d + 12) 73 155 [z_p 59, .inl bang] (z_H S) Z := by
  refine z_go (c := 8) (t := z_t155) rfl rfl rfl z_tk155 [] 100 (fun C K R hC hK hR => ?_)
  refine And.intro (fun _ => ?_) (fun e => absurd (lt_nge e) hb)
  conv => whnf
  refine hC _ _ _ _ (s_M_findsOrders hD hc hn (fun q lb fo tr g1 => ?_))
  exact hR _ _ ⟨_, rfl, rfl⟩ (hz q lb fo tr g1.1)
set_option maxRecDepth 20000 in
theorem s_M_ordersNo (hb : bang < 0) (hz : Z (some (.inl (-4))) (z_H (z_rm2 S 4))) : z_EvM (d + 12) 73 155 [z_p 59, .inl bang] (z_H S) Z := by
  refine z_go (c := 8) (t := z_t155) rfl rfl rfl z_tk155 [] 100 (fun C K R hC hK hR => ?_)
  refine And.intro (fun e => absurd hb (nlt_le e)) (fun _ => ?_)
  conv => whnf
  refine hC _ _ _ _ (s_M_refuse (k := 4) (by omega) rfl ?_)
  exact hR _ _ ⟨_, rfl, rfl⟩ hz
set_option maxRecDepth 20000 in
theorem s_M_leastBang (hD : z_Rl (S.2 61) D) (hc : D.1 3 = nI n) (hn : n ≤ 5) (hz : ∀ q lb fo tr, lb = (orD D n 0).2.1 → Z (some (.inl lb)) (z_H (moS S q lb fo tr))) : z_EvM (d + 12) 73 157 [z_p 59] (z_H S) Z := by
  refine z_go (c := 8) (t := z_t157) rfl rfl rfl z_tk157 [] 100 (fun C K R hC hK hR => ?_)
  conv => whnf
  refine hC _ _ _ _ (s_M_findsOrders hD hc hn (fun q lb fo tr g1 => ?_))
  exact hR _ _ ⟨_, rfl, rfl⟩ (hz q lb fo tr g1.2.2.1)
def odF (a : z_Oa) (M i : Nat) : Int32 := if a.1 = 0 then -9 else if i < M then a.2.2 i else -9
set_option maxRecDepth 20000 in
theorem s_M_orderOk {i : Nat} (hi : i < 2 ^ 31) (hD : z_Rl (S.2 61) D) (hc : D.1 3 = nI n) (hn : n ≤ 5) (hb : ¬ bang < 0) (hz : ∀ b q lb fo tr, b = odF (orD D n bang) (cM (D.2 3) n) i → Z (some (.inl b)) (z_H (moS S q lb fo tr))) : z_EvM (d + 12) 73 156 [z_p 59, .inl bang, .inl (nI i)] (z_H S) Z := by
  have hM5 : cM (D.2 3) n ≤ n := cM_le _ n
  have hcl : (nI i).toNatClampNeg = i := nI_clamp hi
  have none9 : ∀ q lb fo tr, odF (orD D n bang) (cM (D.2 3) n) i = -9 → z_Run (d + 12) 73 (z_own 8) z_m156.2.1 z_m156.2.2.1 none (fun v h' => z_nar z_m156.2.2.2.1 v ∧ Z v h') 44 [(0, z_p 59)] [] (z_H (moS S q lb fo tr)) := by
    intro q lb fo tr h
    refine z_Run_of z_tk156 [] 60 (fun C K R hC hK hR => ?_)
    exact hR _ _ ⟨⟨_, rfl, rfl⟩, hz _ q lb fo tr h.symm⟩
  refine z_go (c := 8) (t := z_t156) rfl rfl rfl z_tk156 [(44, [0])] 60 (fun C K R hC hK hR => ?_)
  refine And.intro (fun e => absurd e hb) (fun _ => ?_)
  refine And.intro (fun _ => ?_) (fun e => absurd (nI_pos' hi) e)
  conv => whnf
  refine hC _ _ _ _ (s_M_findsOrders hD hc hn (fun q lb fo tr g1 => ?_))
  obtain ⟨a1, a2, a3, a4, a5⟩ := g1
  refine And.intro (fun e => ?_) (fun e => ?_)
  · have e : q ≤ 0 := e
    rw [a1] at e
    have e0 : (orD D n bang).1 = 0 := by
      by_cases q0 : (orD D n bang).1 = 0
      · exact q0
      · exact absurd e (nI_nle (by omega) (by omega))
    exact hK _ _ _ _ (none9 q lb fo tr (by unfold odF; rw [if_pos e0]))
  · have e : ¬ q ≤ 0 := e
    rw [a1] at e
    have e0 : ¬ (orD D n bang).1 = 0 := fun z => e (by rw [z]; decide)
    conv => whnf
    refine hC _ _ _ _ (s_M_sitters (S := moS S q lb fo tr) hD hc hn ?_)
    refine And.intro (fun e2 => ?_) (fun e2 => ?_)
    · have e2 : cntF (D.2 3) n ≤ nI i := e2
      rw [cM_cnt] at e2
      have e3 := (nI_leI (by omega) hi).mp e2
      exact hK _ _ _ _ (none9 q lb fo tr (by unfold odF; rw [if_neg e0, if_neg (by omega)]))
    · have e2 : ¬ cntF (D.2 3) n ≤ nI i := e2
      rw [cM_cnt] at e2
      have e3 : i < cM (D.2 3) n := by
        by_cases z : i < cM (D.2 3) n
        · exact z
        · exact absurd (nI_le (by omega) hi) e2
      refine And.intro (vp_in_nI (by omega) (by omega)) ?_
      refine hR _ _ ⟨_, rfl, rfl⟩ (hz _ q lb fo tr ?_)
      show fo (nI i).toNatClampNeg = _
      unfold odF
      rw [if_neg e0, if_pos e3, hcl]
      exact a5.resolve_left e0 i e3
set_option maxRecDepth 20000 in
theorem s_M_orderNo {i : Int32} (hb : bang < 0 ∨ i < 0) (hz : Z (some (.inl (-4))) (z_H (z_rm2 S 4))) : z_EvM (d + 12) 73 156 [z_p 59, .inl bang, .inl i] (z_H S) Z := by
  have bad : z_Run (d + 12) 73 (z_own 8) z_m156.2.1 z_m156.2.2.1 none (fun v h' => z_nar z_m156.2.2.2.1 v ∧ Z v h') 8 [(0, z_p 59)] [] (z_H S) := by
    refine z_Run_of z_tk156 [] 60 (fun C K R hC hK hR => ?_)
    conv => whnf
    refine hC _ _ _ _ (s_M_refuse (k := 4) (by omega) rfl ?_)
    exact hR _ _ ⟨⟨_, rfl, rfl⟩, hz⟩
  refine z_go (c := 8) (t := z_t156) rfl rfl rfl z_tk156 [(8, [0])] 60 (fun C K R hC hK hR => ?_)
  refine And.intro (fun _ => hK _ _ _ _ bad) (fun e => ?_)
  refine And.intro (fun e2 => absurd (hb.resolve_left e) (nlt_le e2)) (fun _ => hK _ _ _ _ bad)
end
theorem Inv_ol {S : z_S} (hI : Inv S) (m b : Int32) (f g : Nat → Int32) (q lb : Int32) (be at' : Nat → Int32) : Inv (olX S m b f g q lb be at') := by
  obtain ⟨n, gg, u, t, w, hok, hRl, him, htx, hrw, hrf, hpl⟩ := hI
  exact ⟨n, gg, u, t, w, hok, hRl, him, htx, hrw, hrf, hpl⟩
theorem Inv_mo {S : z_S} (hI : Inv S) (q lb : Int32) (fo tr : Nat → Int32) : Inv (moS S q lb fo tr) := by
  obtain ⟨n, gg, u, t, w, hok, hRl, him, htx, hrw, hrf, hpl⟩ := hI
  exact ⟨n, gg, u, t, w, hok, hRl, him, htx, hrw, hrf, hpl⟩
set_option maxRecDepth 20000 in
theorem op_orders (bang : Int32) : z_op 76 155 [.inl bang] := by
  intro S hI Z hz
  obtain ⟨n, g, u, t, w, hok, hRl, him, htx, hrw, hrf, hpl⟩ := id hI
  obtain ⟨⟨hn, hc⟩, hg, hu, hL, hO, hV, hf, hwe, hdi, hgu⟩ := id hok
  refine z_go (c := 7) (t := z_t76) rfl rfl rfl z_tk76 [] 100 (fun C K R hC hK hR => ?_)
  refine And.intro (fun e => ?_) (fun e => ?_)
  · conv => whnf
    refine hC _ _ _ _ (s_O_look (S := S) (by omega) hc hn hf hV (fun f g' q lb be at' h1 => ?_))
    refine hR _ _ ⟨_, rfl, rfl⟩ (hz q (olX S (nI (cM (S.2 8) n)) bang f g' q lb be at') (fun Z2 hz2 => ?_))
    exact s_M_ordersOk (S := olX S (nI (cM (S.2 8) n)) bang f g' q lb be at') (D := dN S) hRl hc hn (nlt_le e) (fun q' lb' fo tr h2 => hz2 _ _ (h2.trans h1.1.symm) (Inv_mo (Inv_ol hI _ _ _ _ _ _ _ _) _ _ _ _))
  · conv => whnf
    refine hC _ _ _ _ (s_X_refuse 4 (by omega) rfl ?_)
    refine hR _ _ ⟨_, rfl, rfl⟩ (hz _ (z_rx S 4) (fun Z2 hz2 => ?_))
    exact s_M_ordersNo (lt_nge e) (hz2 _ _ rfl (Inv_ref hI (by omega)))
set_option maxRecDepth 20000 in
theorem op_leastBang : z_op 78 157 [] := by
  intro S hI Z hz
  obtain ⟨n, g, u, t, w, hok, hRl, him, htx, hrw, hrf, hpl⟩ := id hI
  obtain ⟨⟨hn, hc⟩, hg, hu, hL, hO, hV, hf, hwe, hdi, hgu⟩ := id hok
  refine z_go (c := 7) (t := z_t78) rfl rfl rfl z_tk78 [] 100 (fun C K R hC hK hR => ?_)
  conv => whnf
  refine hC _ _ _ _ (s_O_look (S := S) (by omega) hc hn hf hV (fun f g' q lb be at' h1 => ?_))
  refine hR _ _ ⟨_, rfl, rfl⟩ (hz lb (olX S (nI (cM (S.2 8) n)) 0 f g' q lb be at') (fun Z2 hz2 => ?_))
  have hex := orD_ex (dN S) hn 0
  have hlb : lb = (orD (dN S) n 0).2.1 := (h1.2.2.1.resolve_left (fun z => hex z.1)).2
  exact s_M_leastBang (S := olX S (nI (cM (S.2 8) n)) 0 f g' q lb be at') (D := dN S) hRl hc hn (fun q' lb' fo tr h2 => hz2 _ _ (h2.trans hlb.symm) (Inv_mo (Inv_ol hI _ _ _ _ _ _ _ _) _ _ _ _))
set_option maxRecDepth 20000 in
theorem op_order (bang i : Int32) : z_op 77 156 [.inl bang, .inl i] := by
  intro S hI Z hz
  obtain ⟨n, g, u, t, w, hok, hRl, him, htx, hrw, hrf, hpl⟩ := id hI
  obtain ⟨⟨hn, hc⟩, hg, hu, hL, hO, hV, hf, hwe, hdi, hgu⟩ := id hok
  have hM5 : cM (S.2 8) n ≤ n := cM_le _ n
  have bad : (bang < 0 ∨ i < 0) → z_Run 600 73 (z_own 7) z_m77.2.1 z_m77.2.2.1 none (fun v h' => z_nar z_m77.2.2.2.1 v ∧ Z v h') 8 [(0, z_p 0)] [] (z_H S) := by
    intro h
    refine z_Run_of z_tk77 [] 60 (fun C K R hC hK hR => ?_)
    conv => whnf
    refine hC _ _ _ _ (s_X_refuse 4 (by omega) rfl ?_)
    exact hR _ _ ⟨⟨_, rfl, rfl⟩, hz _ _ (fun Z2 hz2 => s_M_orderNo h (hz2 _ _ rfl (Inv_ref hI (by omega))))⟩
  refine z_go (c := 7) (t := z_t77) rfl rfl rfl z_tk77 [(8, [0]), (60, [0])] 60 (fun C K R hC hK hR => ?_)
  refine And.intro (fun e => hK _ _ _ _ (bad (Or.inl e))) (fun e => ?_)
  refine And.intro (fun e2 => ?_) (fun e2 => hK _ _ _ _ (bad (Or.inr (lt_nge e2))))
  obtain ⟨k, hk, rfl⟩ := nI_of (nlt_le e2)
  have hcl : (nI k).toNatClampNeg = k := nI_clamp hk
  conv => whnf
  refine hC _ _ _ _ (s_O_look (S := S) (by omega) hc hn hf hV (fun f g' q lb be at' h1 => ?_))
  obtain ⟨a1, a2, a3, a4⟩ := h1
  have ref : ∀ b, b = odF (orD (dN S) n bang) (cM (S.2 8) n) k → Z (some (.inl b)) (z_H (olX S (nI (cM (S.2 8) n)) bang f g' q lb be at')) := by
    intro b hb
    refine hz b (olX S (nI (cM (S.2 8) n)) bang f g' q lb be at') (fun Z2 hz2 => ?_)
    exact s_M_orderOk (S := olX S (nI (cM (S.2 8) n)) bang f g' q lb be at') (D := dN S) hk hRl hc hn e (fun b' q' lb' fo tr h2 => hz2 _ _ (h2.trans hb.symm) (Inv_mo (Inv_ol hI _ _ _ _ _ _ _ _) _ _ _ _))
  have non : odF (orD (dN S) n bang) (cM (S.2 8) n) k = -9 → z_Run 600 73 (z_own 7) z_m77.2.1 z_m77.2.2.1 none (fun v h' => z_nar z_m77.2.2.2.1 v ∧ Z v h') 60 [(0, z_p 0)] [] (z_H (olX S (nI (cM (S.2 8) n)) bang f g' q lb be at')) := by
    intro h
    refine z_Run_of z_tk77 [] 60 (fun C K R hC hK hR => ?_)
    exact hR _ _ ⟨⟨_, rfl, rfl⟩, ref _ h.symm⟩
  refine And.intro (fun e3 => ?_) (fun e3 => ?_)
  · have e3 : q ≤ 0 := e3
    rw [a1] at e3
    have e0 : (orD (dN S) n bang).1 = 0 := by
      by_cases q0 : (orD (dN S) n bang).1 = 0
      · exact q0
      · exact absurd e3 (nI_nle (by omega) (by omega))
    exact hK _ _ _ _ (non (by unfold odF; rw [if_pos e0]))
  · have e3 : ¬ q ≤ 0 := e3
    rw [a1] at e3
    have e0 : ¬ (orD (dN S) n bang).1 = 0 := fun z => e3 (by rw [z]; decide)
    refine And.intro (fun e4 => ?_) (fun e4 => ?_)
    · have e4 : nI (cM (S.2 8) n) ≤ nI k := e4
      have e5 := (nI_leI (by omega) hk).mp e4
      exact hK _ _ _ _ (non (by unfold odF; rw [if_neg e0, if_neg (by omega)]))
    · have e4 : ¬ nI (cM (S.2 8) n) ≤ nI k := e4
      have e5 : k < cM (S.2 8) n := by
        by_cases z : k < cM (S.2 8) n
        · exact z
        · exact absurd (nI_le (by omega) hk) e4
      refine And.intro (vp_in_nI (by omega) (by omega)) ?_
      refine hR _ _ ⟨_, rfl, rfl⟩ (ref _ ?_)
      show be (nI k).toNatClampNeg = _
      unfold odF
      rw [if_neg e0, if_pos e5, hcl]
      exact a4.resolve_left e0 k e5
