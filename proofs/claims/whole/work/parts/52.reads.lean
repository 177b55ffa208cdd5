/-! the reference's reading of a statement -/
def uS (S : z_S) (pl : Int32) (f : Nat → Int32) : z_S := z_w (z_u S 41 pl) 65 f
theorem uS_pl {S : z_S} {pl x : Int32} {f : Nat → Int32} : z_H (z_u (uS S pl f) 41 x) = z_H (uS S x f) := rfl
section
variable {d t p : Nat} {S : z_S} {Z : z_Zt} {f : Nat → Int32}
set_option maxRecDepth 20000 in
theorem s_M_takes {c : Int32} (ht : S.1 40 = nI t) (ht8 : t ≤ 80) (hp8 : p ≤ t) (hy : gF (S.2 64) t p = c → Z (some (.inl 1)) (z_H (uS S (nI (p + 1)) f))) (hn : ¬ gF (S.2 64) t p = c → Z (some (.inl 0)) (z_H (uS S (nI p) f))) : z_EvM (d + 2) 73 122 [z_p 59, .inl c] (z_H (uS S (nI p) f)) Z := by
  refine z_go (c := 8) (t := z_t122) rfl rfl rfl z_tk122 [] 100 (fun C K R hC hK hR => ?_)
  conv => whnf
  refine hC _ _ _ _ (s_M_sign (S := uS S (nI p) f) (p := p) ht ht8 rfl (by omega) ?_)
  refine And.intro (fun e => ?_) (fun e => ?_)
  · have h := hy e
    rw [nI_succ, ← uS_pl (pl := nI p)] at h
    exact hR _ _ ⟨_, rfl, rfl⟩ h
  · exact hR _ _ ⟨_, rfl, rfl⟩ (hn e)
set_option maxRecDepth 20000 in
theorem r_M_rnStep {k n most : Nat} (hk : k < 3) (hn3 : n ≤ 2) (hm : most ≤ 2) (ht : S.1 40 = nI t) (ht8 : t ≤ 80) (hp8 : p ≤ t) (stop : (most ≤ n ∨ ¬ isD (gF (S.2 64) t p)) → z_Run (d + 2) 73 (z_own 8) z_m123.2.1 z_m123.2.2.1 none (fun v h' => z_nar z_m123.2.2.2.1 v ∧ Z v h') 71 [(0, z_p 59), (3, .inl (nI n))] [] (z_H (uS S (nI p) f))) (go : n < most → isD (gF (S.2 64) t p) → z_Run (d + 2) 73 (z_own 8) z_m123.2.1 z_m123.2.2.1 none (fun v h' => z_nar z_m123.2.2.2.1 v ∧ Z v h') 9 [(0, z_p 59), (1, .inl (nI k)), (2, .inl (nI most)), (3, .inl (nI (n + 1)))] [] (z_H (uS S (nI (p + 1)) (upd f k (10 * f k + gF (S.2 64) t p - 48))))) : z_Run (d + 2) 73 (z_own 8) z_m123.2.1 z_m123.2.2.1 none (fun v h' => z_nar z_m123.2.2.2.1 v ∧ Z v h') 9 [(0, z_p 59), (1, .inl (nI k)), (2, .inl (nI most)), (3, .inl (nI n))] [] (z_H (uS S (nI p) f)) := by
  have hcl : (nI k).toNatClampNeg = k := nI_clamp (by omega)
  have hin : vp_in (nI k) 3 := vp_in_nI hk (by omega)
  refine z_Run_of z_tk123 [(71, [0, 3]), (32, [0, 1, 2, 3])] 60 (fun C K R hC hK hR => ?_)
  refine And.intro (fun e => hK _ _ _ _ (stop (Or.inl ((nI_leI (by omega) (by omega)).mp e)))) (fun e => ?_)
  have hnm : n < most := by
    by_cases q : n < most
    · exact q
    · exact absurd (nI_le (by omega) (by omega)) e
  conv => whnf
  refine hC _ _ _ _ (s_M_sign (S := uS S (nI p) f) (p := p) ht ht8 rfl (by omega) ?_)
  refine And.intro (fun e1 => hK _ _ _ _ (stop (Or.inr (fun z => nlt_le z.1 e1)))) (fun e1 => ?_)
  conv => whnf
  refine hC _ _ _ _ (s_M_sign (S := uS S (nI p) f) (p := p) ht ht8 rfl (by omega) ?_)
  refine And.intro (fun e2 => hK _ _ _ _ (stop (Or.inr (fun z => nlt_le z.2 e2)))) (fun e2 => ?_)
  have hd : isD (gF (S.2 64) t p) := ⟨nlt_ge e1, nlt_ge e2⟩
  have h := go hnm hd
  refine hK _ _ _ _ ?_
  refine z_Run_of z_tk123 [(55, [0, 1, 2, 3])] 60 (fun C K R hC hK hR => ?_)
  refine And.intro hin ?_
  conv => whnf
  refine hC _ _ _ _ (s_M_sign (S := uS S (nI p) f) (p := p) ht ht8 rfl (by omega) ?_)
  refine And.intro hin ?_
  refine hK _ _ _ _ (show z_Run (d + 2) 73 (z_own 8) z_m123.2.1 z_m123.2.2.1 none (fun v h' => z_nar z_m123.2.2.2.1 v ∧ Z v h') 55 [(0, z_p 59), (1, .inl (nI k)), (2, .inl (nI most)), (3, .inl (nI n))] [] (z_H (uS S (nI p) (upd f (nI k).toNatClampNeg (10 * f (nI k).toNatClampNeg + gF (S.2 64) t p - 48)))) from ?_)
  rw [hcl]
  generalize 10 * f k + gF (S.2 64) t p - 48 = x at h
  rw [nI_succ, nI_succ, ← uS_pl (pl := nI p)] at h
  refine z_Run_of z_tk123 [(9, [0, 1, 2, 3])] 60 (fun C K R hC hK hR => ?_)
  exact hK _ _ _ _ h
set_option maxRecDepth 20000 in
theorem r_M_rnEnd {n : Nat} (hn3 : n ≤ 2) {S' : z_S} (hz : ∀ r : Int32, z_b r (0 < n) → Z (some (.inl r)) (z_H S')) : z_Run (d + 2) 73 (z_own 8) z_m123.2.1 z_m123.2.2.1 none (fun v h' => z_nar z_m123.2.2.2.1 v ∧ Z v h') 71 [(0, z_p 59), (3, .inl (nI n))] [] (z_H S') := by
  refine z_Run_of z_tk123 [] 60 (fun C K R hC hK hR => ?_)
  refine And.intro (fun e => ?_) (fun e => ?_)
  · have h0 : ¬ 0 < n := fun z => nI_nle z (by omega) e
    exact hR _ _ ⟨⟨_, rfl, rfl⟩, hz _ (Or.inr ⟨rfl, h0⟩)⟩
  · have h0 : 0 < n := by
      rcases n with _ | n
      · exact absurd (show nI 0 ≤ 0 by decide) e
      · omega
    exact hR _ _ ⟨⟨_, rfl, rfl⟩, hz _ (Or.inl ⟨rfl, h0⟩)⟩
set_option maxRecDepth 20000 in
theorem s_M_rnD {k : Nat} {kk : Int32} (hkk : kk = nI k) (hk : k < 3) (ht : S.1 40 = nI t) (ht8 : t ≤ 80) (hp8 : p ≤ t) (hy : isD (gF (S.2 64) t p) → ∀ f', f' k = gF (S.2 64) t p - 48 → (∀ j, ¬ j = k → f' j = f j) → Z (some (.inl 1)) (z_H (uS S (nI (p + 1)) f'))) (hn : ¬ isD (gF (S.2 64) t p) → ∀ f', Z (some (.inl 0)) (z_H (uS S (nI p) f'))) : z_EvM (d + 2) 73 123 [z_p 59, .inl kk, .inl 1] (z_H (uS S (nI p) f)) Z := by
  subst hkk
  have hcl : (nI k).toNatClampNeg = k := nI_clamp (by omega)
  refine z_go (c := 8) (t := z_t123) rfl rfl rfl z_tk123 [(9, [0, 1, 2, 3])] 60 (fun C K R hC hK hR => ?_)
  refine And.intro (vp_in_nI hk (by omega)) ?_
  refine hK _ _ _ _ (show z_Run (d + 2) 73 (z_own 8) z_m123.2.1 z_m123.2.2.1 none (fun v h' => z_nar z_m123.2.2.2.1 v ∧ Z v h') 9 [(0, z_p 59), (1, .inl (nI k)), (2, .inl (nI 1)), (3, .inl (nI 0))] [] (z_H (uS S (nI p) (upd f (nI k).toNatClampNeg 0))) from ?_)
  rw [hcl]
  refine r_M_rnStep hk (by omega) (by omega) ht ht8 hp8 (fun h => ?_) (fun _ hd => ?_)
  · have hno := h.resolve_left (by omega)
    refine r_M_rnEnd (by omega) (fun r hr => ?_)
    rw [zb_0 hr (by omega)]
    exact hn hno _
  · have hlt := isD_lt hd
    refine r_M_rnStep hk (by omega) (by omega) ht ht8 hlt (fun _ => ?_) (fun h => absurd h (by omega))
    refine r_M_rnEnd (by omega) (fun r hr => ?_)
    rw [zb_1 hr (by omega)]
    refine hy hd _ ?_ (fun j hj => by rw [pk_un hj, pk_un hj])
    rw [pk_us, pk_us]
    grind
set_option maxRecDepth 20000 in
theorem s_M_rnN {k : Nat} {kk : Int32} (hkk : kk = nI k) (hk : k < 3) (ht : S.1 40 = nI t) (ht8 : t ≤ 80) (hp8 : p ≤ t) (hy : isD (gF (S.2 64) t p) → ∀ f', f' k = nmF (gF (S.2 64) t) p → (∀ j, ¬ j = k → f' j = f j) → Z (some (.inl 1)) (z_H (uS S (nI (nmN (gF (S.2 64) t) p)) f'))) (hn : ¬ isD (gF (S.2 64) t p) → ∀ f', Z (some (.inl 0)) (z_H (uS S (nI p) f'))) : z_EvM (d + 2) 73 123 [z_p 59, .inl kk, .inl 2] (z_H (uS S (nI p) f)) Z := by
  subst hkk
  have hcl : (nI k).toNatClampNeg = k := nI_clamp (by omega)
  refine z_go (c := 8) (t := z_t123) rfl rfl rfl z_tk123 [(9, [0, 1, 2, 3])] 60 (fun C K R hC hK hR => ?_)
  refine And.intro (vp_in_nI hk (by omega)) ?_
  refine hK _ _ _ _ (show z_Run (d + 2) 73 (z_own 8) z_m123.2.1 z_m123.2.2.1 none (fun v h' => z_nar z_m123.2.2.2.1 v ∧ Z v h') 9 [(0, z_p 59), (1, .inl (nI k)), (2, .inl (nI 2)), (3, .inl (nI 0))] [] (z_H (uS S (nI p) (upd f (nI k).toNatClampNeg 0))) from ?_)
  rw [hcl]
  refine r_M_rnStep hk (by omega) (by omega) ht ht8 hp8 (fun h => ?_) (fun _ hd => ?_)
  · have hno := h.resolve_left (by omega)
    refine r_M_rnEnd (by omega) (fun r hr => ?_)
    rw [zb_0 hr (by omega)]
    exact hn hno _
  · have hlt := isD_lt hd
    refine r_M_rnStep hk (by omega) (by omega) ht ht8 hlt (fun h => ?_) (fun _ hd2 => ?_)
    · have hno := h.resolve_left (by omega)
      refine r_M_rnEnd (by omega) (fun r hr => ?_)
      rw [zb_1 hr (by omega)]
      have h1 := hy hd
      unfold nmF nmN at h1
      rw [if_pos hd, if_pos hd, if_neg hno, if_neg hno] at h1
      refine h1 _ ?_ (fun j hj => by rw [pk_un hj, pk_un hj])
      rw [pk_us, pk_us]
      grind
    · have hlt2 := isD_lt hd2
      refine r_M_rnStep hk (by omega) (by omega) ht ht8 hlt2 (fun _ => ?_) (fun h => absurd h (by omega))
      refine r_M_rnEnd (by omega) (fun r hr => ?_)
      rw [zb_1 hr (by omega)]
      have h1 := hy hd
      unfold nmF nmN at h1
      rw [if_pos hd, if_pos hd, if_pos hd2, if_pos hd2] at h1
      refine h1 _ ?_ (fun j hj => by rw [pk_un hj, pk_un hj, pk_un hj])
      rw [pk_us, pk_us, pk_us]
      generalize gF (S.2 64) t p = x
      generalize gF (S.2 64) t (p + 1) = y
      grind
theorem kd_nn (c : Int32) (h : ¬ kdF c = -2) : ¬ kdF c < 0 := by
  unfold kdF at h ⊢
  split
  · decide
  · split
    · decide
    · split
      · decide
      · split
        · decide
        · split
          · decide
          · split
            · decide
            · rename_i a b c d e f
              rw [if_neg a, if_neg b, if_neg c, if_neg d, if_neg e, if_neg f] at h
              exact absurd rfl h
set_option maxRecDepth 20000 in
theorem s_M_readsKind (ht : S.1 40 = nI t) (ht8 : t ≤ 80) (hp8 : p ≤ t) (hy : ¬ kdF (gF (S.2 64) t p) = -2 → ∀ f', f' 0 = kdF (gF (S.2 64) t p) → (∀ j, ¬ j = 0 → f' j = f j) → Z (some (.inl 1)) (z_H (uS S (nI (p + 1)) f'))) (hn : kdF (gF (S.2 64) t p) = -2 → ∀ f', Z (some (.inl 0)) (z_H (uS S (nI p) f'))) : z_EvM (d + 2) 73 125 [z_p 59] (z_H (uS S (nI p) f)) Z := by
  refine z_go (c := 8) (t := z_t125) rfl rfl rfl z_tk125 [(13, [0])] 60 (fun C K R hC hK hR => ?_)
  conv => whnf
  refine hC _ _ _ _ (s_M_sign (S := uS S (nI p) f) (p := p) ht ht8 rfl (by omega) ?_)
  conv => whnf
  refine hC _ _ _ _ (s_M_kindOf (h := z_H (uS S (nI p) f)) (fun r hr => ?_))
  have hr : r = (if kdF (gF (S.2 64) t p) = -2 then -9 else kdF (gF (S.2 64) t p)) := hr
  refine And.intro (vp_in_iff.mpr (by decide)) ?_
  refine hK _ _ _ _ (show z_Run (d + 2) 73 (z_own 8) z_m125.2.1 z_m125.2.2.1 none (fun v h' => z_nar z_m125.2.2.2.1 v ∧ Z v h') 13 [(0, z_p 59)] [] (z_H (uS S (nI p) (upd f 0 r))) from ?_)
  refine z_Run_of z_tk125 [] 60 (fun C K R hC hK hR => ?_)
  refine And.intro (vp_in_iff.mpr (by decide)) ?_
  refine And.intro (fun e => ?_) (fun e => ?_)
  · have e : 0 ≤ r := e
    have hk : ¬ kdF (gF (S.2 64) t p) = -2 := by
      intro z
      rw [hr, if_pos z] at e
      exact absurd e (by decide)
    rw [if_neg hk] at hr
    have h := hy hk (upd f 0 r) (by rw [pk_us, hr]) (fun j hj => pk_un hj)
    rw [nI_succ, ← uS_pl (pl := nI p)] at h
    exact hR _ _ ⟨⟨_, rfl, rfl⟩, h⟩
  · have e : ¬ 0 ≤ r := e
    have hk : kdF (gF (S.2 64) t p) = -2 := by
      by_cases z : kdF (gF (S.2 64) t p) = -2
      · exact z
      · rw [hr, if_neg z] at e
        exact absurd (nlt_ge (kd_nn _ z)) e
    exact hR _ _ ⟨⟨_, rfl, rfl⟩, hn hk _⟩
set_option maxRecDepth 20000 in
theorem s_M_readsSide (ht : S.1 40 = nI t) (ht8 : t ≤ 80) (hp8 : p ≤ t) (hy : ¬ sdF (gF (S.2 64) t p) = -2 → ∀ f', f' 1 = sdF (gF (S.2 64) t p) → (∀ j, ¬ j = 1 → f' j = f j) → Z (some (.inl 1)) (z_H (uS S (nI (p + 1)) f'))) (hn : sdF (gF (S.2 64) t p) = -2 → ∀ f', Z (some (.inl 0)) (z_H (uS S (nI p) f'))) : z_EvM (d + 2) 73 126 [z_p 59] (z_H (uS S (nI p) f)) Z := by
  have tail : ∀ r : Int32, r = (if sdF (gF (S.2 64) t p) = -2 then 0 else sdF (gF (S.2 64) t p)) → z_Run (d + 2) 73 (z_own 8) z_m126.2.1 z_m126.2.2.1 none (fun v h' => z_nar z_m126.2.2.2.1 v ∧ Z v h') 33 [(0, z_p 59)] [] (z_H (uS S (nI p) (upd f 1 r))) := by
    intro r hr
    refine z_Run_of z_tk126 [] 60 (fun C K R hC hK hR => ?_)
    refine And.intro (vp_in_iff.mpr (by decide)) ?_
    refine And.intro (fun e => ?_) (fun e => ?_)
    · have e : ¬ r = 0 := e
      have hk : ¬ sdF (gF (S.2 64) t p) = -2 := fun z => e (by rw [hr, if_pos z])
      rw [if_neg hk] at hr
      have h := hy hk (upd f 1 r) (by rw [pk_us, hr]) (fun j hj => pk_un hj)
      rw [nI_succ, ← uS_pl (pl := nI p)] at h
      exact hR _ _ ⟨⟨_, rfl, rfl⟩, h⟩
    · have e : r = 0 := e
      have hk : sdF (gF (S.2 64) t p) = -2 := by
        by_cases z : sdF (gF (S.2 64) t p) = -2
        · exact z
        · rw [if_neg z] at hr
          rw [hr] at e
          unfold sdF at e
          split at e
          · exact absurd e (by decide)
          · split at e <;> exact absurd e (by decide)
      exact hR _ _ ⟨⟨_, rfl, rfl⟩, hn hk _⟩
  refine z_go (c := 8) (t := z_t126) rfl rfl rfl z_tk126 [(33, [0])] 60 (fun C K R hC hK hR => ?_)
  conv => whnf
  refine hC _ _ _ _ (s_M_sign (S := uS S (nI p) f) (p := p) ht ht8 rfl (by omega) ?_)
  refine And.intro (fun e => ?_) (fun e => ?_)
  · conv => whnf
    refine hC _ _ _ _ (s_M_sign (S := uS S (nI p) f) (p := p) ht ht8 rfl (by omega) ?_)
    refine And.intro (fun e2 => ?_) (fun e2 => ?_)
    · refine And.intro (vp_in_iff.mpr (by decide)) ?_
      exact hK _ _ _ _ (tail 0 (by rw [show sdF (gF (S.2 64) t p) = -2 from (if_neg e).trans (if_neg e2)]; rfl))
    · refine And.intro (vp_in_iff.mpr (by decide)) ?_
      exact hK _ _ _ _ (tail 1 (by rw [show sdF (gF (S.2 64) t p) = 1 from (if_neg e).trans (if_pos e2)]; rfl))
  · refine And.intro (vp_in_iff.mpr (by decide)) ?_
    exact hK _ _ _ _ (tail (-1) (by rw [show sdF (gF (S.2 64) t p) = -1 from if_pos e]; rfl))
end
