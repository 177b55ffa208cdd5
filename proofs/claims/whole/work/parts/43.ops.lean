/-! level, off, first -/
theorem ow_all : ∀ i : Fin 100, ∀ j : Fin 5, (-200 : Int32) ≤ ownF (nI i.val) (nI j.val) ∧ ownF (nI i.val) (nI j.val) ≤ 200 := by decide +kernel
theorem ow_bd {own notch : Int32} (h1 : 0 ≤ own) (h2 : own ≤ 99) (h3 : 0 ≤ notch) (h4 : notch ≤ 4) : sB 0 (ownF own notch) := by
  obtain ⟨i, i1, i2, rfl⟩ := inN (lo := 0) (hi := 99) h1 h2 (by omega) (by omega)
  obtain ⟨j, j1, j2, rfl⟩ := inN (lo := 0) (hi := 4) h3 h4 (by omega) (by omega)
  exact ow_all ⟨i, by omega⟩ ⟨j, by omega⟩
theorem pow12 {n : Nat} (h : n ≤ 5) : 12 ^ n ≤ 248832 := Nat.pow_le_pow_right (n := 12) (by omega) h
section
variable {d n L : Nat} {S D : z_S} {Z : z_Zt}
set_option maxRecDepth 20000 in
theorem s_M_findsPlacings (hD : z_Rl (S.2 61) D) (hcn : D.1 3 = nI n) (hn : n ≤ 5) (hL : D.1 0 = nI L) (hL6 : L ≤ 6) (ho : 0 ≤ D.1 1 ∧ D.1 1 ≤ 99) (hv : 0 ≤ D.1 2 ∧ D.1 2 ≤ 4) (hwe : ∀ k, k < n → 1 ≤ D.2 1 k ∧ D.2 1 k ≤ 60) (hz : ∀ lv le fl fb tr, aR n (plD D n L) lv le fb → lJ n 248832 (plD D n L) fl → okA (plD D n L) → Z none (z_H (mS S lv le fl fb tr))) : z_EvM (d + 10) 73 146 [z_p 59] (z_H S) Z := by
  have p12 := pow12 hn
  refine z_go (c := 8) (t := z_t146) rfl rfl rfl z_tk146 [] 100 (fun C K R hC hK hR => ?_)
  conv => whnf
  refine hC _ _ _ _ (s_M_bare (S := z_u (z_u S 42 0) 43 (-9)) (fun r hr => ?_))
  have hr : r = ownF (D.1 1) (D.1 2) := by
    rw [hr]
    show 0 + ownF (S.2 61 1) (S.2 61 2) = _
    rw [hD.1 1 (by omega), hD.1 2 (by omega)]
    grind
  subst hr
  have go := s_M_places (S := S) (D := D) (L := L) (n := n) hD hcn hn hL hL6 hv hwe n 0 (d + 9) (by omega) (by omega)
  conv => whnf
  refine hC _ _ _ _ (go 0 (fun _ => 0) (ownF (D.1 1) (D.1 2)) (0, -9, fun _ => 0) 0 (-9) (S.2 67) (S.2 68) (S.2 66) _ (fun k hk => by omega) ⟨rfl, rfl, Or.inl rfl⟩ (Or.inl ⟨rfl, by show ¬ (-9 : Int32) = 0; decide⟩) (Or.inl rfl) (ow_bd ho.1 ho.2 hv.1 hv.2) (by omega) (fun lv le fl fb tr h1 h2 h3 h4 => ?_))
  exact hR _ _ rfl (hz lv le fl fb tr h1 (lJ_mono h2 (by omega)) h3)
set_option maxRecDepth 20000 in
theorem s_M_level (hD : z_Rl (S.2 61) D) (hcn : D.1 3 = nI n) (hn : n ≤ 5) (hL : D.1 0 = nI L) (hL6 : L ≤ 6) (ho : 0 ≤ D.1 1 ∧ D.1 1 ≤ 99) (hv : 0 ≤ D.1 2 ∧ D.1 2 ≤ 4) (hwe : ∀ k, k < n → 1 ≤ D.2 1 k ∧ D.2 1 k ≤ 60) (hz : ∀ lv le fl fb tr, lv = (plD D n L).1 → Z (some (.inl lv)) (z_H (mS S lv le fl fb tr))) : z_EvM (d + 11) 73 147 [z_p 59] (z_H S) Z := by
  refine z_go (c := 8) (t := z_t147) rfl rfl rfl z_tk147 [] 100 (fun C K R hC hK hR => ?_)
  conv => whnf
  refine hC _ _ _ _ (s_M_findsPlacings hD hcn hn hL hL6 ho hv hwe (fun lv le fl fb tr h1 h2 h3 => ?_))
  exact hR _ _ ⟨_, rfl, rfl⟩ (hz lv le fl fb tr h1.1)
set_option maxRecDepth 20000 in
theorem s_M_off (hD : z_Rl (S.2 61) D) (hcn : D.1 3 = nI n) (hn : n ≤ 5) (hL : D.1 0 = nI L) (hL6 : L ≤ 6) (ho : 0 ≤ D.1 1 ∧ D.1 1 ≤ 99) (hv : 0 ≤ D.1 2 ∧ D.1 2 ≤ 4) (hwe : ∀ k, k < n → 1 ≤ D.2 1 k ∧ D.2 1 k ≤ 60) (hz : ∀ lv le fl fb tr, le = (plD D n L).2.1 → Z (some (.inl le)) (z_H (mS S lv le fl fb tr))) : z_EvM (d + 11) 73 149 [z_p 59] (z_H S) Z := by
  refine z_go (c := 8) (t := z_t149) rfl rfl rfl z_tk149 [] 100 (fun C K R hC hK hR => ?_)
  conv => whnf
  refine hC _ _ _ _ (s_M_findsPlacings hD hcn hn hL hL6 ho hv hwe (fun lv le fl fb tr h1 h2 h3 => ?_))
  exact hR _ _ ⟨_, rfl, rfl⟩ (hz lv le fl fb tr h1.2.1)
def fiF (a : z_Pa) (off : Int32) (c : Nat) : Int32 := if off = 0 then (if a.2.1 = 0 then a.2.2 c else 99) else (if a.2.1 = -9 then 99 else a.2.2 c)
set_option maxRecDepth 20000 in
theorem s_M_firstOk {c : Nat} {off : Int32} (hD : z_Rl (S.2 61) D) (hcn : D.1 3 = nI n) (hn : n ≤ 5) (hL : D.1 0 = nI L) (hL6 : L ≤ 6) (ho : 0 ≤ D.1 1 ∧ D.1 1 ≤ 99) (hv : 0 ≤ D.1 2 ∧ D.1 2 ≤ 4) (hwe : ∀ k, k < n → 1 ≤ D.2 1 k ∧ D.2 1 k ≤ 60) (hc : c < n) (hoff : isN off 2) (hz : ∀ b lv le fl fb tr, b = fiF (plD D n L) off c → Z (some (.inl b)) (z_H (mS S lv le fl fb tr))) : z_EvM (d + 11) 73 148 [z_p 59, .inl (nI c), .inl off] (z_H S) Z := by
  have hcl : (nI c).toNatClampNeg = c := nI_clamp (by omega)
  have hin : vp_in (nI c) 5 := vp_in_nI (by omega) (by omega)
  refine z_go (c := 8) (t := z_t148) rfl rfl rfl z_tk148 [] 100 (fun C K R hC hK hR => ?_)
  conv => whnf
  refine hC _ _ _ _ (s_M_isKidP hD hcn hn (fun r1 hr1 => ?_))
  refine And.intro (fun _ => ?_) (fun e => absurd ⟨c, hc, rfl⟩ (zb_f hr1 e))
  conv => whnf
  refine hC _ _ _ _ (s_M_isInP 2 (by omega) rfl (fun r2 hr2 => ?_))
  refine And.intro (fun _ => ?_) (fun e => absurd hoff (zb_f hr2 e))
  conv => whnf
  refine hC _ _ _ _ (s_M_findsPlacings hD hcn hn hL hL6 ho hv hwe (fun lv le fl fb tr h1 h2 h3 => ?_))
  obtain ⟨g1, g2, g3⟩ := h1
  refine And.intro (fun e => ?_) (fun e => ?_)
  · have hf : fiF (plD D n L) off c = (if (plD D n L).2.1 = -9 then 99 else (plD D n L).2.2 c) := if_neg e
    refine And.intro (fun e2 => ?_) (fun e2 => ?_)
    · have e2 : le < 0 := e2
      rw [g2] at e2
      have e3 : (plD D n L).2.1 = -9 := h3.resolve_right (fun z => z e2)
      exact hR _ _ ⟨_, rfl, rfl⟩ (hz _ lv le fl fb tr (by rw [hf, if_pos e3]))
    · have e2 : ¬ le < 0 := e2
      rw [g2] at e2
      have e3 : ¬ (plD D n L).2.1 = -9 := fun z => e2 (by rw [z]; decide)
      refine And.intro hin ?_
      refine hR _ _ ⟨_, rfl, rfl⟩ (hz _ lv le fl fb tr ?_)
      show fb (nI c).toNatClampNeg = _
      rw [hf, if_neg e3, hcl]
      exact g3.resolve_left e3 c hc
  · have hf : fiF (plD D n L) off c = (if (plD D n L).2.1 = 0 then (plD D n L).2.2 c else 99) := if_pos e
    refine And.intro (fun e2 => ?_) (fun e2 => ?_)
    · have e2 : lv ≤ 0 := e2
      rw [g1] at e2
      rcases h2 with ⟨l1, l2⟩ | ⟨k, k1, k2, k3, -⟩
      · exact hR _ _ ⟨_, rfl, rfl⟩ (hz _ lv le fl fb tr (by rw [hf, if_neg l2]))
      · rw [k3] at e2
        exact absurd e2 (nI_nle (by omega) (by omega))
    · have e2 : ¬ lv ≤ 0 := e2
      rw [g1] at e2
      rcases h2 with ⟨l1, l2⟩ | ⟨k, k1, k2, k3, k4, k5⟩
      · rw [l1] at e2
        exact absurd (show (0 : Int32) ≤ 0 by decide) e2
      · refine And.intro hin ?_
        refine hR _ _ ⟨_, rfl, rfl⟩ (hz _ lv le fl fb tr ?_)
        show fl (nI c).toNatClampNeg = _
        rw [hf, if_pos k4, hcl]
        exact k5 c hc
set_option maxRecDepth 20000 in
theorem s_M_firstNo {c off : Int32} (hD : z_Rl (S.2 61) D) (hcn : D.1 3 = nI n) (hn : n ≤ 5) (hc : ¬ isN c n) (hz : Z (some (.inl (1000000000 - -1))) (z_H (z_rm2 S 1))) : z_EvM (d + 11) 73 148 [z_p 59, .inl c, .inl off] (z_H S) Z := by
  refine z_go (c := 8) (t := z_t148) rfl rfl rfl z_tk148 [] 100 (fun C K R hC hK hR => ?_)
  conv => whnf
  refine hC _ _ _ _ (s_M_isKidP hD hcn hn (fun r1 hr1 => ?_))
  refine And.intro (fun e => absurd (zb_t hr1 e) hc) (fun _ => ?_)
  conv => whnf
  refine hC _ _ _ _ (s_M_refuse (k := 1) (by omega) rfl ?_)
  exact hR _ _ ⟨_, rfl, rfl⟩ hz
set_option maxRecDepth 20000 in
theorem s_M_firstOf {c : Nat} {off : Int32} (hD : z_Rl (S.2 61) D) (hcn : D.1 3 = nI n) (hn : n ≤ 5) (hc : c < n) (hoff : ¬ isN off 2) (hz : Z (some (.inl (1000000000 - -2))) (z_H (z_rm2 S 2))) : z_EvM (d + 11) 73 148 [z_p 59, .inl (nI c), .inl off] (z_H S) Z := by
  refine z_go (c := 8) (t := z_t148) rfl rfl rfl z_tk148 [] 100 (fun C K R hC hK hR => ?_)
  conv => whnf
  refine hC _ _ _ _ (s_M_isKidP hD hcn hn (fun r1 hr1 => ?_))
  refine And.intro (fun _ => ?_) (fun e => absurd ⟨c, hc, rfl⟩ (zb_f hr1 e))
  conv => whnf
  refine hC _ _ _ _ (s_M_isInP 2 (by omega) rfl (fun r2 hr2 => ?_))
  refine And.intro (fun e => absurd (zb_t hr2 e) hoff) (fun _ => ?_)
  conv => whnf
  refine hC _ _ _ _ (s_M_refuse (k := 2) (by omega) rfl ?_)
  exact hR _ _ ⟨_, rfl, rfl⟩ hz
end
theorem Inv_plX {S : z_S} {n g u t w L : Nat} (hI : z_Iv S n g u t w) (hL6 : L ≤ 6) (hL : S.1 0 = nI L) {a b : Int32} {f : Nat → Int32} {tt : Nat → Nat → Int32} {lv le : Int32} {be at' : Nat → Int32} (h : aR n (plD (dN S) n L) lv le be) : Inv (plX S a b f tt lv le be at') := by
  obtain ⟨hok, hRl, him, htx, hrw, hrf, hpl⟩ := hI
  exact ⟨n, g, u, t, w, hok, hRl, him, htx, hrw, hrf, Or.inr ⟨rfl, L, hL6, hL, h.1, h.2.1, h.2.2⟩⟩
theorem Inv_mS {S : z_S} (hI : Inv S) (lv le : Int32) (fl fb tr : Nat → Int32) : Inv (mS S lv le fl fb tr) := by
  obtain ⟨n, g, u, t, w, hok, hRl, him, htx, hrw, hrf, hpl⟩ := hI
  exact ⟨n, g, u, t, w, hok, hRl, him, htx, hrw, hrf, hpl⟩
set_option maxRecDepth 20000 in
theorem op_level : z_op 71 147 [] := by
  intro S hI Z hz
  obtain ⟨n, g, u, t, w, hI2⟩ := id hI
  obtain ⟨hok, hRl, him, htx, hrw, hrf, hpl⟩ := id hI2
  obtain ⟨⟨hn, hc⟩, hg, hu, hL, hO, hV, hf, hwe, hdi, hgu⟩ := id hok
  obtain ⟨L, hL1, hL6, hLe⟩ := len_N hL.1 hL.2
  refine z_go (c := 7) (t := z_t71) rfl rfl rfl z_tk71 [] 100 (fun C K R hC hK hR => ?_)
  conv => whnf
  refine hC _ _ _ _ (s_P_look (S := S) (by omega) hc hn hL6 hLe hV hpl (fun h1 h2 => ?_) (fun a b f tt lv le be at' h2 => ?_))
  · refine hR _ _ ⟨_, rfl, rfl⟩ (hz (S.1 23) S (fun Z2 hz2 => ?_))
    exact s_M_level (D := dN S) (L := L) hRl hc hn hLe hL6 hO hV hwe (fun lv' le' fl fb tr e => hz2 _ _ (e.trans h2.1.symm) (Inv_mS hI _ _ _ _ _))
  · refine hR _ _ ⟨_, rfl, rfl⟩ (hz lv (plX S a b f tt lv le be at') (fun Z2 hz2 => ?_))
    exact s_M_level (S := plX S a b f tt lv le be at') (D := dN S) (L := L) hRl hc hn hLe hL6 hO hV hwe (fun lv' le' fl fb tr e => hz2 _ _ (e.trans h2.1.symm) (Inv_mS (Inv_plX hI2 hL6 hLe h2) _ _ _ _ _))
set_option maxRecDepth 20000 in
theorem op_off : z_op 73 149 [] := by
  intro S hI Z hz
  obtain ⟨n, g, u, t, w, hI2⟩ := id hI
  obtain ⟨hok, hRl, him, htx, hrw, hrf, hpl⟩ := id hI2
  obtain ⟨⟨hn, hc⟩, hg, hu, hL, hO, hV, hf, hwe, hdi, hgu⟩ := id hok
  obtain ⟨L, hL1, hL6, hLe⟩ := len_N hL.1 hL.2
  refine z_go (c := 7) (t := z_t73) rfl rfl rfl z_tk73 [] 100 (fun C K R hC hK hR => ?_)
  conv => whnf
  refine hC _ _ _ _ (s_P_look (S := S) (by omega) hc hn hL6 hLe hV hpl (fun h1 h2 => ?_) (fun a b f tt lv le be at' h2 => ?_))
  · refine hR _ _ ⟨_, rfl, rfl⟩ (hz (S.1 24) S (fun Z2 hz2 => ?_))
    exact s_M_off (D := dN S) (L := L) hRl hc hn hLe hL6 hO hV hwe (fun lv' le' fl fb tr e => hz2 _ _ (e.trans h2.2.1.symm) (Inv_mS hI _ _ _ _ _))
  · refine hR _ _ ⟨_, rfl, rfl⟩ (hz le (plX S a b f tt lv le be at') (fun Z2 hz2 => ?_))
    exact s_M_off (S := plX S a b f tt lv le be at') (D := dN S) (L := L) hRl hc hn hLe hL6 hO hV hwe (fun lv' le' fl fb tr e => hz2 _ _ (e.trans h2.2.1.symm) (Inv_mS (Inv_plX hI2 hL6 hLe h2) _ _ _ _ _))
set_option maxRecDepth 20000 in
theorem r_X_first {n c : Nat} {S' : z_S} {Z : z_Zt} {off : Int32} {a : z_Pa} (hc : c < n) (hn : n ≤ 5) (h : aR n a (S'.1 23) (S'.1 24) (S'.2 42)) (hz : Z (some (.inl (fiF a off c))) (z_H S')) : z_Run 600 73 (z_own 7) z_m72.2.1 z_m72.2.2.1 none (fun v h' => z_nar z_m72.2.2.2.1 v ∧ Z v h') 44 [(0, z_p 0), (1, .inl (nI c)), (2, .inl off)] [] (z_H S') := by
  have hcl : (nI c).toNatClampNeg = c := nI_clamp (by omega)
  have hin : vp_in (nI c) 5 := vp_in_nI (by omega) (by omega)
  obtain ⟨g1, g2, g3⟩ := h
  refine z_Run_of z_tk72 [] 60 (fun C K R hC hK hR => ?_)
  refine And.intro (fun e => ?_) (fun e => ?_)
  · have hf : fiF a off c = (if a.2.1 = -9 then 99 else a.2.2 c) := if_neg e
    rw [hf] at hz
    refine And.intro (fun e2 => ?_) (fun e2 => ?_)
    · have e3 : ¬ a.2.1 = -9 := fun z => e2 (g2.trans z)
      rw [if_neg e3, ← g3.resolve_left e3 c hc, ← hcl] at hz
      refine And.intro (fun _ => ?_) (fun e => absurd rfl e)
      refine And.intro hin ?_
      exact hR _ _ ⟨⟨_, rfl, rfl⟩, by rw [hcl] at hz ⊢; exact hz⟩
    · have e3 : a.2.1 = -9 := g2.symm.trans e2
      rw [if_pos e3] at hz
      refine And.intro (fun e => absurd e (by decide)) (fun _ => ?_)
      exact hR _ _ ⟨⟨_, rfl, rfl⟩, hz⟩
  · have hf : fiF a off c = (if a.2.1 = 0 then a.2.2 c else 99) := if_pos e
    rw [hf] at hz
    refine And.intro (fun e2 => ?_) (fun e2 => ?_)
    · have e3 : a.2.1 = 0 := g2.symm.trans e2
      have e4 : ¬ a.2.1 = -9 := by rw [e3]; decide
      rw [if_pos e3, ← g3.resolve_left e4 c hc, ← hcl] at hz
      refine And.intro (fun _ => ?_) (fun e => absurd rfl e)
      refine And.intro hin ?_
      exact hR _ _ ⟨⟨_, rfl, rfl⟩, by rw [hcl] at hz ⊢; exact hz⟩
    · have e3 : ¬ a.2.1 = 0 := fun z => e2 (g2.trans z)
      rw [if_neg e3] at hz
      refine And.intro (fun e => absurd e (by decide)) (fun _ => ?_)
      exact hR _ _ ⟨⟨_, rfl, rfl⟩, hz⟩
set_option maxRecDepth 20000 in
theorem op_first (c off : Int32) : z_op 72 148 [.inl c, .inl off] := by
  intro S hI Z hz
  obtain ⟨n, g, u, t, w, hI2⟩ := id hI
  obtain ⟨hok, hRl, him, htx, hrw, hrf, hpl⟩ := id hI2
  obtain ⟨⟨hn, hc⟩, hg, hu, hL, hO, hV, hf, hwe, hdi, hgu⟩ := id hok
  obtain ⟨L, hL1, hL6, hLe⟩ := len_N hL.1 hL.2
  refine z_go (c := 7) (t := z_t72) rfl rfl rfl z_tk72 [(33, [0, 1, 2])] 60 (fun C K R hC hK hR => ?_)
  conv => whnf
  refine hC _ _ _ _ (s_B0_hasChildP hc hn (fun r1 hr1 => ?_))
  refine And.intro (fun e1 => ?_) (fun e1 => ?_)
  · obtain ⟨k, hk, rfl⟩ := zb_t hr1 e1
    have main : isN off 2 → z_Run 600 73 (z_own 7) z_m72.2.1 z_m72.2.2.1 none (fun v h' => z_nar z_m72.2.2.2.1 v ∧ Z v h') 33 [(0, z_p 0), (1, .inl (nI k)), (2, .inl off)] [] (z_H S) := by
      intro hoff
      refine z_Run_of z_tk72 [(44, [0, 1, 2])] 60 (fun C K R hC hK hR => ?_)
      conv => whnf
      refine hC _ _ _ _ (s_P_look (S := S) (by omega) hc hn hL6 hLe hV hpl (fun h1 h2 => ?_) (fun a b f tt lv le be at' h2 => ?_))
      · refine hK _ _ _ _ (r_X_first (S' := S) (a := plD (dN S) n L) hk hn h2 (hz _ S (fun Z2 hz2 => ?_)))
        exact s_M_firstOk (D := dN S) (L := L) hRl hc hn hLe hL6 hO hV hwe hk hoff (fun b lv' le' fl fb tr e => hz2 _ _ e (Inv_mS hI _ _ _ _ _))
      · refine hK _ _ _ _ (r_X_first (S' := plX S a b f tt lv le be at') (a := plD (dN S) n L) hk hn h2 (hz _ (plX S a b f tt lv le be at') (fun Z2 hz2 => ?_)))
        exact s_M_firstOk (S := plX S a b f tt lv le be at') (D := dN S) (L := L) hRl hc hn hLe hL6 hO hV hwe hk hoff (fun b lv' le' fl fb tr e => hz2 _ _ e (Inv_mS (Inv_plX hI2 hL6 hLe h2) _ _ _ _ _))
    refine And.intro (fun q => hK _ _ _ _ (main (isN2.mpr (Or.inl q)))) (fun q => And.intro (fun q2 => hK _ _ _ _ (main (isN2.mpr (Or.inr q2)))) (fun q2 => ?_))
    conv => whnf
    refine hC _ _ _ _ (s_X_refuseApart 2 (by omega) rfl ?_)
    refine hR _ _ ⟨_, rfl, rfl⟩ (hz _ (z_rx S 2) (fun Z2 hz2 => ?_))
    exact s_M_firstOf (S := z_rx S 2) (D := dN S) hRl hc hn hk (fun z => (isN2.mp z).elim q q2) (hz2 _ _ rfl (Inv_ref hI (by omega)))
  · have hno := zb_f hr1 e1
    conv => whnf
    refine hC _ _ _ _ (s_X_refuseApart 1 (by omega) rfl ?_)
    refine hR _ _ ⟨_, rfl, rfl⟩ (hz _ (z_rx S 1) (fun Z2 hz2 => ?_))
    exact s_M_firstNo (S := z_rx S 1) (D := dN S) hRl hc hn hno (hz2 _ _ rfl (Inv_ref hI (by omega)))
