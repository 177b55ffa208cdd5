/-! go; count; judge -/
set_option maxRecDepth 20000 in
theorem s_M_goOk {d g : Nat} {S D : z_S} {Z : z_Zt} {x v y t : Int32} (hD : z_Rl (S.2 61) D) (hx : sP (D.1 0) x) (hy : y = 0 ∨ sP (D.1 0) y) (hne : ¬ x = y) (h0 : ¬ v < 0) (h9 : ¬ 99 < v) (ht : isN t 3) (hg : D.1 4 = nI g) (hg10 : g < 10) (hz : Z (some (.inl (nI (g + 1)))) (z_H (z_w S 61 (goS (S.2 61) g x v y t)))) : z_EvM (d + 2) 73 158 [z_p 59, .inl x, .inl v, .inl y, .inl t] (z_H S) Z := by
  have hs4 : S.2 61 4 = nI g := (hD.1 4 (by omega)).trans hg
  have ei : (26 : Int32) + 4 * S.2 61 4 = nI (26 + 4 * g) := by rw [hs4]; exact goix ⟨g, hg10⟩
  have e1 : nI (26 + 4 * g) + 1 = nI (26 + 4 * g + 1) := nI_k _ 1 1 rfl
  have e2 : nI (26 + 4 * g) + 2 = nI (26 + 4 * g + 2) := nI_k _ 2 2 rfl
  have e3 : nI (26 + 4 * g) + 3 = nI (26 + 4 * g + 3) := nI_k _ 3 3 rfl
  have h10 : ¬ S.2 61 4 = 10 := by
    rw [hs4]
    intro z
    have := (nI_eq (a := g) (b := 10) (by omega) (by omega)).mp z
    omega
  have tail : z_Run (d + 2) 73 (z_own 8) z_m158.2.1 z_m158.2.2.1 none (fun v h' => z_nar z_m158.2.2.2.1 v ∧ Z v h') 29 [(0, z_p 59), (1, .inl x), (2, .inl v), (3, .inl y), (4, .inl t)] [] (z_H S) := by
    refine z_Run_of z_tk158 [] 100 (fun C K R hC hK hR => ?_)
    conv => whnf
    refine hC _ _ _ _ (s_M_within (fun r hr => ?_))
    have e' : r = 0 := wi_ok hr h0 h9
    subst e'
    refine And.intro (fun e => absurd rfl e) (fun _ => ?_)
    conv => whnf
    refine hC _ _ _ _ (s_M_isInP 3 (by omega) rfl (fun r3 hr3 => ?_))
    refine And.intro (fun _ => ?_) (fun e => absurd ht (zb_f hr3 e))
    refine And.intro (fun e => absurd rfl e) (fun _ => ?_)
    refine And.intro (vp_in_iff.mpr (by decide)) ?_
    refine And.intro (fun _ => ?_) (fun e => absurd e h10)
    refine And.intro (fun _ => ?_) (fun e => absurd rfl e)
    refine And.intro (vp_in_iff.mpr (by decide)) ?_
    refine And.intro (show vp_in (26 + 4 * S.2 61 4) 90 by rw [ei]; exact vp_in_nI (by omega) (by omega)) ?_
    refine And.intro (show vp_in (26 + 4 * S.2 61 4 + 1) 90 by rw [ei, e1]; exact vp_in_nI (by omega) (by omega)) ?_
    refine And.intro (show vp_in (26 + 4 * S.2 61 4 + 2) 90 by rw [ei, e2]; exact vp_in_nI (by omega) (by omega)) ?_
    refine And.intro (show vp_in (26 + 4 * S.2 61 4 + 3) 90 by rw [ei, e3]; exact vp_in_nI (by omega) (by omega)) ?_
    refine And.intro (vp_in_iff.mpr (by decide)) ?_
    refine And.intro (vp_in_iff.mpr (by decide)) ?_
    refine And.intro (vp_in_iff.mpr (by decide)) ?_
    have key : ∀ f : Nat → Int32, f = upd (upd (upd (upd (S.2 61) (26 + 4 * S.2 61 4).toNatClampNeg x) (26 + 4 * S.2 61 4 + 1).toNatClampNeg v) (26 + 4 * S.2 61 4 + 2).toNatClampNeg y) (26 + 4 * S.2 61 4 + 3).toNatClampNeg t → upd f 4 (f 4 + 1) 4 = nI (g + 1) ∧ upd f 4 (f 4 + 1) = goS (S.2 61) g x v y t := by
      intro f hf
      rw [ei, e1, e2, e3, nI_clamp (by omega), nI_clamp (by omega), nI_clamp (by omega), nI_clamp (by omega)] at hf
      have h5 : f 4 = nI g := by rw [hf, pk_un (by omega), pk_un (by omega), pk_un (by omega), pk_un (by omega), hs4]
      have h6 : f 4 + 1 = nI (g + 1) := by rw [h5, nI_succ]
      rw [pk_us, h6, hf]
      exact ⟨rfl, rfl⟩
    obtain ⟨k1, k2⟩ := key _ rfl
    have hz3 := hz
    rw [← k1, ← z_Hw k2] at hz3
    exact hR _ _ ⟨⟨_, rfl, rfl⟩, hz3⟩
  refine z_go (c := 8) (t := z_t158) rfl rfl rfl z_tk158 [(29, [0, 1, 2, 3, 4])] 100 (fun C K R hC hK hR => ?_)
  conv => whnf
  refine hC _ _ _ _ (s_M_isSeatP hD (fun r1 hr1 => ?_))
  refine And.intro (fun e => absurd hx (zb_f hr1 e)) (fun _ => ?_)
  refine And.intro (fun e => ?_) (fun e => ?_)
  · refine And.intro (fun _ => ?_) (fun e => absurd e hne)
    exact hK _ _ _ _ tail
  · conv => whnf
    refine hC _ _ _ _ (s_M_isSeatP hD (fun r2 hr2 => ?_))
    refine And.intro (fun e3 => absurd (hy.resolve_left e) (zb_f hr2 e3)) (fun _ => ?_)
    refine And.intro (fun _ => ?_) (fun e => absurd e hne)
    exact hK _ _ _ _ tail
set_option maxRecDepth 20000 in
theorem s_M_goSeat {d : Nat} {S D : z_S} {Z : z_Zt} {x v y t : Int32} (hD : z_Rl (S.2 61) D) (hno : ¬ (sP (D.1 0) x ∧ (y = 0 ∨ sP (D.1 0) y) ∧ ¬ x = y)) (hz : Z (some (.inl (-1))) (z_H (z_rm2 S 1))) : z_EvM (d + 2) 73 158 [z_p 59, .inl x, .inl v, .inl y, .inl t] (z_H S) Z := by
  have tail : z_Run (d + 2) 73 (z_own 8) z_m158.2.1 z_m158.2.2.1 none (fun v h' => z_nar z_m158.2.2.2.1 v ∧ Z v h') 25 [(0, z_p 59), (1, .inl x), (2, .inl v), (3, .inl y), (4, .inl t)] [] (z_H S) := by
    refine z_Run_of z_tk158 [] 100 (fun C K R hC hK hR => ?_)
    refine And.intro (fun _ => ?_) (fun e => absurd e (by decide))
    refine And.intro (fun _ => ?_) (fun e => absurd e (by decide))
    refine And.intro (fun e => absurd e (by decide)) (fun _ => ?_)
    conv => whnf
    refine hC _ _ _ _ (s_M_refuse (k := 1) (by omega) rfl ?_)
    exact hR _ _ ⟨⟨_, rfl, rfl⟩, hz⟩
  refine z_go (c := 8) (t := z_t158) rfl rfl rfl z_tk158 [(25, [0, 1, 2, 3, 4])] 100 (fun C K R hC hK hR => ?_)
  conv => whnf
  refine hC _ _ _ _ (s_M_isSeatP hD (fun r1 hr1 => ?_))
  refine And.intro (fun e => hK _ _ _ _ tail) (fun e1 => ?_)
  have hx := zb_t hr1 e1
  refine And.intro (fun e => ?_) (fun e => ?_)
  · refine And.intro (fun q => absurd ⟨hx, Or.inl e, q⟩ hno) (fun q => hK _ _ _ _ tail)
  · conv => whnf
    refine hC _ _ _ _ (s_M_isSeatP hD (fun r2 hr2 => ?_))
    refine And.intro (fun e3 => hK _ _ _ _ tail) (fun e3 => ?_)
    refine And.intro (fun q => absurd ⟨hx, Or.inr (zb_t hr2 e3), q⟩ hno) (fun q => hK _ _ _ _ tail)
set_option maxRecDepth 20000 in
theorem s_M_goNo {d : Nat} {S D : z_S} {Z : z_Zt} {x v y t : Int32} (k : Nat) (c : Int32) (hc : -c = nI k) (hk : k < 7) (hc0 : ¬ c = 0) (hD : z_Rl (S.2 61) D) (hx : sP (D.1 0) x) (hy : y = 0 ∨ sP (D.1 0) y) (hne : ¬ x = y) (hwhy : (c = -4 ∧ v < 0) ∨ (c = -6 ∧ ¬ v < 0 ∧ 99 < v) ∨ (c = -2 ∧ ¬ v < 0 ∧ ¬ 99 < v ∧ ¬ isN t 3) ∨ (c = -6 ∧ ¬ v < 0 ∧ ¬ 99 < v ∧ isN t 3 ∧ S.2 61 4 = 10)) (hz : Z (some (.inl c)) (z_H (z_rm2 S k))) : z_EvM (d + 2) 73 158 [z_p 59, .inl x, .inl v, .inl y, .inl t] (z_H S) Z := by
  have last : z_Run (d + 2) 73 (z_own 8) z_m158.2.1 z_m158.2.2.1 none (fun v h' => z_nar z_m158.2.2.2.1 v ∧ Z v h') 76 [(0, z_p 59), (5, .inl c)] [] (z_H S) := by
    refine z_Run_of z_tk158 [] 100 (fun C K R hC hK hR => ?_)
    refine And.intro (fun e => absurd e hc0) (fun _ => ?_)
    conv => whnf
    refine hC _ _ _ _ (s_M_refuse (k := k) hk hc ?_)
    exact hR _ _ ⟨⟨_, rfl, rfl⟩, hz⟩
  have tail : z_Run (d + 2) 73 (z_own 8) z_m158.2.1 z_m158.2.2.1 none (fun v h' => z_nar z_m158.2.2.2.1 v ∧ Z v h') 29 [(0, z_p 59), (1, .inl x), (2, .inl v), (3, .inl y), (4, .inl t)] [] (z_H S) := by
    refine z_Run_of z_tk158 [(76, [0, 5])] 100 (fun C K R hC hK hR => ?_)
    conv => whnf
    refine hC _ _ _ _ (s_M_within (fun r hr => ?_))
    rcases hwhy with ⟨hc, h1⟩ | ⟨hc, h1, h2⟩ | ⟨hc, h1, h2, h3⟩ | ⟨hc, h1, h2, h3, h4⟩
    · have e' : r = c := (wi_lo hr h1).trans hc.symm
      subst e'
      refine And.intro (fun _ => ?_) (fun e => absurd e hc0)
      refine And.intro (fun _ => ?_) (fun e => absurd e hc0)
      exact hK _ _ _ _ last
    · have e' : r = c := (wi_hi hr h1 h2).trans hc.symm
      subst e'
      refine And.intro (fun _ => ?_) (fun e => absurd e hc0)
      refine And.intro (fun _ => ?_) (fun e => absurd e hc0)
      exact hK _ _ _ _ last
    · have e' : r = 0 := wi_ok hr h1 h2
      subst e'
      subst hc
      refine And.intro (fun e => absurd rfl e) (fun _ => ?_)
      conv => whnf
      refine hC _ _ _ _ (s_M_isInP 3 (by omega) rfl (fun r3 hr3 => ?_))
      refine And.intro (fun e => absurd (zb_t hr3 e) h3) (fun _ => ?_)
      refine And.intro (fun _ => ?_) (fun e => absurd e (by decide))
      exact hK _ _ _ _ last
    · have e' : r = 0 := wi_ok hr h1 h2
      subst e'
      subst hc
      refine And.intro (fun e => absurd rfl e) (fun _ => ?_)
      conv => whnf
      refine hC _ _ _ _ (s_M_isInP 3 (by omega) rfl (fun r3 hr3 => ?_))
      refine And.intro (fun _ => ?_) (fun e => absurd h3 (zb_f hr3 e))
      refine And.intro (fun e => absurd rfl e) (fun _ => ?_)
      refine And.intro (vp_in_iff.mpr (by decide)) ?_
      refine And.intro (fun e => absurd h4 e) (fun _ => ?_)
      exact hK _ _ _ _ last
  refine z_go (c := 8) (t := z_t158) rfl rfl rfl z_tk158 [(29, [0, 1, 2, 3, 4])] 100 (fun C K R hC hK hR => ?_)
  conv => whnf
  refine hC _ _ _ _ (s_M_isSeatP hD (fun r1 hr1 => ?_))
  refine And.intro (fun e => absurd hx (zb_f hr1 e)) (fun _ => ?_)
  refine And.intro (fun e => ?_) (fun e => ?_)
  · refine And.intro (fun _ => ?_) (fun e => absurd e hne)
    exact hK _ _ _ _ tail
  · conv => whnf
    refine hC _ _ _ _ (s_M_isSeatP hD (fun r2 hr2 => ?_))
    refine And.intro (fun e3 => absurd (hy.resolve_left e) (zb_f hr2 e3)) (fun _ => ?_)
    refine And.intro (fun _ => ?_) (fun e => absurd e hne)
    exact hK _ _ _ _ tail
set_option maxRecDepth 20000 in
theorem s_G_isFull {d g : Nat} {S : z_S} {Z : z_Zt} (hg : S.1 12 = nI g) (hg8 : g ≤ 10) (hz : ∀ r : Int32, z_b r (g = 10) → Z (some (.inl r)) (z_H S)) : z_EvM (d + 1) 73 29 [z_p 19] (z_H S) Z := by
  refine z_go (c := 1) (t := z_t29) rfl rfl rfl z_tk29 [] 100 (fun C K R hC hK hR => ?_)
  refine And.intro (fun q => ?_) (fun q => ?_)
  · have q : S.1 12 < 10 := q
    rw [hg] at q
    have := (nI_ltI (a := g) (b := 10) (by omega) (by omega)).mp q
    exact hR _ _ ⟨_, rfl, rfl⟩ (hz _ (Or.inr ⟨rfl, by omega⟩))
  · have q : ¬ S.1 12 < 10 := q
    rw [hg] at q
    have h2 : ¬ g < 10 := fun z => q (nI_lt (a := g) (b := 10) z (by omega))
    exact hR _ _ ⟨_, rfl, rfl⟩ (hz _ (Or.inl ⟨rfl, by omega⟩))
def goX (S : z_S) (x v y t : Int32) : z_S := z_u (z_w (z_w (z_w (z_w S 20 (upd (S.2 20) (S.1 12).toNatClampNeg x)) 21 (upd (S.2 21) (S.1 12).toNatClampNeg v)) 22 (upd (S.2 22) (S.1 12).toNatClampNeg y)) 23 (upd (S.2 23) (S.1 12).toNatClampNeg t)) 12 (S.1 12 + 1)
set_option maxRecDepth 20000 in
theorem s_G_add {d g : Nat} {S : z_S} {Z : z_Zt} {x v y t : Int32} (hg : S.1 12 = nI g) (hg8 : g < 10) (hz : Z none (z_H (goX S x v y t))) : z_EvM (d + 2) 73 30 [z_p 19, .inl x, .inl v, .inl y, .inl t] (z_H S) Z := by
  have hv : vp_in (S.1 12) 10 := by rw [hg]; exact vp_in_nI hg8 (by omega)
  refine z_go (c := 1) (t := z_t30) rfl rfl rfl z_tk30 [] 100 (fun C K R hC hK hR => ?_)
  conv => whnf
  refine hC _ _ _ _ (s_G_isFull hg (by omega) (fun r hr => ?_))
  refine And.intro (fun e => absurd (zb_t hr e) (by omega)) (fun e => ?_)
  refine And.intro hv (And.intro hv (And.intro hv (And.intro hv ?_)))
  exact hR _ _ rfl hz
theorem Inv_go {S : z_S} {n g u tt w : Nat} {x v y t : Int32} (hI : z_Iv S n g u tt w) (hg10 : g < 10) : Inv (z_w (goX S x v y t) 61 (goS ((goX S x v y t).2 61) g x v y t)) := by
  obtain ⟨hok, hRl, him, htx, hrw, hrf, hpl⟩ := hI
  obtain ⟨hn, ⟨hg, hg4⟩, hu, hL, hO, hN, hf, hwe, hdi, hgu⟩ := id hok
  have hg4 : S.1 12 = nI g := hg4
  have hcl : (S.1 12).toNatClampNeg = g := by rw [hg4]; exact nI_clamp (by omega)
  refine ⟨n, g + 1, u, tt, w, ⟨hn, ⟨by omega, ?_⟩, hu, hL, hO, hN, hf, hwe, hdi, hgu⟩, ?_, him, htx, hrw, hrf, hpl⟩
  · show S.1 12 + 1 = nI (g + 1)
    rw [hg4, nI_succ]
  · refine goS_Rl hRl hg10 ?_ (fun i hi hne => by rcases i with _ | _ | _ | _ | _ | _ | i <;> first | rfl | omega) ?_ ?_ ?_ ?_ (fun r hr h2 => by rcases r with _ | _ | _ | _ | _ | _ | _ | _ | _ | _ | _ | r <;> first | rfl | omega)
    · show S.1 12 + 1 = nI (g + 1)
      rw [hg4, nI_succ]
    · show upd (S.2 20) (S.1 12).toNatClampNeg x = upd (S.2 20) g x
      rw [hcl]
    · show upd (S.2 21) (S.1 12).toNatClampNeg v = upd (S.2 21) g v
      rw [hcl]
    · show upd (S.2 22) (S.1 12).toNatClampNeg y = upd (S.2 22) g y
      rw [hcl]
    · show upd (S.2 23) (S.1 12).toNatClampNeg t = upd (S.2 23) g t
      rw [hcl]
set_option maxRecDepth 20000 in
theorem r_X_go {S : z_S} {n g u tt w : Nat} {x v y t : Int32} {Z : z_Zt} (hI : z_Iv S n g u tt w) (hz : ∀ (a : Int32) (S1 : z_S), (∀ Z2 : z_Zt, (∀ (b : Int32) (S2 : z_S), b = a → Inv S2 → Z2 (some (.inl b)) (z_H S2)) → z_EvM 600 73 158 [z_p 59, .inl x, .inl v, .inl y, .inl t] (z_H S1) Z2) → Z (some (.inl a)) (z_H S1)) (hx : sP (S.1 0) x) (hy : y = 0 ∨ sP (S.1 0) y) (hne : ¬ x = y) : z_Run 600 73 (z_own 7) z_m79.2.1 z_m79.2.2.1 none (fun v h' => z_nar z_m79.2.2.2.1 v ∧ Z v h') 37 [(0, z_p 0), (1, .inl x), (2, .inl v), (3, .inl y), (4, .inl t)] [] (z_H S) := by
  have hIn : Inv S := ⟨n, g, u, tt, w, hI⟩
  obtain ⟨hok, hRl, him, htx, hrw, hrf, hpl⟩ := id hI
  obtain ⟨hn, ⟨hg10, hg⟩, hu, hL, hO, hN, hf, hwe, hdi, hgu⟩ := id hok
  have hg : S.1 12 = nI g := hg
  have hs4 : S.2 61 4 = nI g := (hRl.1 4 (by omega)).trans hg
  have no : ∀ (k : Nat) (c : Int32), -c = nI k → k < 7 → ¬ c = 0 → ((c = -4 ∧ v < 0) ∨ (c = -6 ∧ ¬ v < 0 ∧ 99 < v) ∨ (c = -2 ∧ ¬ v < 0 ∧ ¬ 99 < v ∧ ¬ isN t 3) ∨ (c = -6 ∧ ¬ v < 0 ∧ ¬ 99 < v ∧ isN t 3 ∧ S.2 61 4 = 10)) → Z (some (.inl c)) (z_H (z_rx S k)) := by
    intro k c h1 h2 h3 h4
    refine hz _ _ (fun Z2 hz2 => ?_)
    exact s_M_goNo (S := z_rx S k) (D := dN S) k c h1 h2 h3 hRl hx hy hne h4 (hz2 _ _ rfl (Inv_ref hIn h2))
  refine z_Run_of z_tk79 [] 100 (fun C K R hC hK hR => ?_)
  refine And.intro (fun q => ?_) (fun q => ?_)
  · refine And.intro (fun q2 => ?_) (fun q2 => ?_)
    · conv => whnf
      refine hC _ _ _ _ (s_X_isSideP (fun r1 hr1 => ?_))
      refine And.intro (fun e1 => ?_) (fun e1 => ?_)
      · conv => whnf
        refine hC _ _ _ _ (s_G_isFull hg hg10 (fun r2 hr2 => ?_))
        refine And.intro (fun e2 => ?_) (fun e2 => ?_)
        · have hlt : g < 10 := by have := zb_f hr2 e2; omega
          conv => whnf
          refine hC _ _ _ _ (s_G_add hg hlt ?_)
          refine hR _ _ ⟨⟨_, rfl, rfl⟩, hz (S.1 12 + 1) (goX S x v y t) (fun Z2 hz2 => ?_)⟩
          exact s_M_goOk (S := goX S x v y t) (D := dN S) hRl hx hy hne (nlt_le q) (nlt_le q2) (zb_t hr1 e1) hg hlt (hz2 _ _ (show nI (g + 1) = S.1 12 + 1 by rw [hg, nI_succ]) (Inv_go hI hlt))
        · have h10 := zb_t hr2 e2
          conv => whnf
          refine hC _ _ _ _ (s_X_refuse 6 (by omega) rfl ?_)
          exact hR _ _ ⟨⟨_, rfl, rfl⟩, no 6 (-6) rfl (by omega) (by decide) (Or.inr (Or.inr (Or.inr ⟨rfl, nlt_le q, nlt_le q2, zb_t hr1 e1, by rw [hs4, h10]; rfl⟩)))⟩
      · conv => whnf
        refine hC _ _ _ _ (s_X_refuse 2 (by omega) rfl ?_)
        exact hR _ _ ⟨⟨_, rfl, rfl⟩, no 2 (-2) rfl (by omega) (by decide) (Or.inr (Or.inr (Or.inl ⟨rfl, nlt_le q, nlt_le q2, zb_f hr1 e1⟩)))⟩
    · conv => whnf
      refine hC _ _ _ _ (s_X_refuse 6 (by omega) rfl ?_)
      exact hR _ _ ⟨⟨_, rfl, rfl⟩, no 6 (-6) rfl (by omega) (by decide) (Or.inr (Or.inl ⟨rfl, nlt_le q, lt_nge q2⟩))⟩
  · conv => whnf
    refine hC _ _ _ _ (s_X_refuse 4 (by omega) rfl ?_)
    exact hR _ _ ⟨⟨_, rfl, rfl⟩, no 4 (-4) rfl (by omega) (by decide) (Or.inl ⟨rfl, lt_nge q⟩)⟩
set_option maxRecDepth 20000 in
theorem op_go (x v y t : Int32) : z_op 79 158 [.inl x, .inl v, .inl y, .inl t] := by
  intro S hI Z hz
  obtain ⟨n, g, u, tt, w, hI2⟩ := id hI
  have hRl := hI2.2.1
  have nob : ¬ (sP (S.1 0) x ∧ (y = 0 ∨ sP (S.1 0) y) ∧ ¬ x = y) → Z (some (.inl (-1))) (z_H (z_rx S 1)) := by
    intro h
    refine hz _ _ (fun Z2 hz2 => ?_)
    exact s_M_goSeat (S := z_rx S 1) (D := dN S) hRl h (hz2 _ _ rfl (Inv_ref hI (by omega)))
  have bad : ¬ (sP (S.1 0) x ∧ (y = 0 ∨ sP (S.1 0) y) ∧ ¬ x = y) → z_Run 600 73 (z_own 7) z_m79.2.1 z_m79.2.2.1 none (fun v h' => z_nar z_m79.2.2.2.1 v ∧ Z v h') 31 [(0, z_p 0)] [] (z_H S) := by
    intro h
    refine z_Run_of z_tk79 [] 100 (fun C K R hC hK hR => ?_)
    conv => whnf
    refine hC _ _ _ _ (s_X_refuse 1 (by omega) rfl ?_)
    exact hR _ _ ⟨⟨_, rfl, rfl⟩, nob h⟩
  refine z_go (c := 7) (t := z_t79) rfl rfl rfl z_tk79 [(31, [0]), (37, [0, 1, 2, 3, 4])] 100 (fun C K R hC hK hR => ?_)
  conv => whnf
  refine hC _ _ _ _ (s_B0_hasSeatP (fun r1 hr1 => ?_))
  refine And.intro (fun e1 => hK _ _ _ _ (bad (fun z => zb_f hr1 e1 z.1))) (fun e1 => ?_)
  refine And.intro (fun e2 => ?_) (fun e2 => ?_)
  · refine And.intro (fun e3 => hK _ _ _ _ (r_X_go hI2 hz (zb_t hr1 e1) (Or.inl e2) e3)) (fun e3 => hK _ _ _ _ (bad (fun z => z.2.2 e3)))
  · conv => whnf
    refine hC _ _ _ _ (s_B0_hasSeatP (fun r2 hr2 => ?_))
    refine And.intro (fun e3 => hK _ _ _ _ (bad (fun z => z.2.1.elim e2 (zb_f hr2 e3)))) (fun e3 => ?_)
    refine And.intro (fun e4 => hK _ _ _ _ (r_X_go hI2 hz (zb_t hr1 e1) (Or.inr (zb_t hr2 e3)) e4)) (fun e4 => hK _ _ _ _ (bad (fun z => z.2.2 e4)))
def cvF (S : z_S) (n : Nat) (fe : Nat → Int32) : Nat → Int32
  | 0 => S.2 61 3
  | 1 => cntF fe n
  | 2 => S.2 61 0
  | 3 => S.2 61 1
  | 4 => S.2 61 2
  | 5 => S.2 61 4
  | 6 => S.2 61 5
  | 7 => S.1 48
  | _ => S.1 40
set_option maxRecDepth 20000 in
theorem s_M_count {d j n : Nat} {S D : z_S} {Z : z_Zt} {v a : Int32} (hD : z_Rl (S.2 61) D) (hc : D.1 3 = nI n) (hn : n ≤ 5) (hj : j < 9) (hv : v = nI j) (ha : a = cvF S n (D.2 3) j) (hz : Z (some (.inl a)) (z_H S)) : z_EvM (d + 4) 73 185 [z_p 59, .inl v] (z_H S) Z := by
  subst hv
  subst ha
  refine z_go (c := 8) (t := z_t185) rfl rfl rfl z_tk185 [] 100 (fun C K R hC hK hR => ?_)
  rcases j with _ | _ | _ | _ | _ | _ | _ | _ | _ | j
  · refine And.intro (fun _ => ?_) (fun e => absurd (by decide) e)
    refine And.intro (fun _ => ?_) (fun e => absurd rfl e)
    refine And.intro (vp_in_iff.mpr (by decide)) ?_
    exact hR _ _ ⟨_, rfl, rfl⟩ hz
  · refine And.intro (fun _ => ?_) (fun e => absurd (by decide) e)
    refine And.intro (fun e => absurd e (by decide)) (fun _ => ?_)
    refine And.intro (fun _ => ?_) (fun e => absurd rfl e)
    conv => whnf
    refine hC _ _ _ _ (s_M_sitters hD hc hn ?_)
    exact hR _ _ ⟨_, rfl, rfl⟩ hz
  · refine And.intro (fun _ => ?_) (fun e => absurd (by decide) e)
    refine And.intro (fun e => absurd e (by decide)) (fun _ => ?_)
    refine And.intro (fun e => absurd e (by decide)) (fun _ => ?_)
    refine And.intro (fun _ => ?_) (fun e => absurd rfl e)
    refine And.intro (vp_in_iff.mpr (by decide)) ?_
    exact hR _ _ ⟨_, rfl, rfl⟩ hz
  · refine And.intro (fun _ => ?_) (fun e => absurd (by decide) e)
    refine And.intro (fun e => absurd e (by decide)) (fun _ => ?_)
    refine And.intro (fun e => absurd e (by decide)) (fun _ => ?_)
    refine And.intro (fun e => absurd e (by decide)) (fun _ => ?_)
    refine And.intro (fun _ => ?_) (fun e => absurd rfl e)
    refine And.intro (vp_in_iff.mpr (by decide)) ?_
    exact hR _ _ ⟨_, rfl, rfl⟩ hz
  · refine And.intro (fun _ => ?_) (fun e => absurd (by decide) e)
    refine And.intro (fun e => absurd e (by decide)) (fun _ => ?_)
    refine And.intro (fun e => absurd e (by decide)) (fun _ => ?_)
    refine And.intro (fun e => absurd e (by decide)) (fun _ => ?_)
    refine And.intro (fun e => absurd e (by decide)) (fun _ => ?_)
    refine And.intro (fun _ => ?_) (fun e => absurd rfl e)
    refine And.intro (vp_in_iff.mpr (by decide)) ?_
    exact hR _ _ ⟨_, rfl, rfl⟩ hz
  · refine And.intro (fun _ => ?_) (fun e => absurd (by decide) e)
    refine And.intro (fun e => absurd e (by decide)) (fun _ => ?_)
    refine And.intro (fun e => absurd e (by decide)) (fun _ => ?_)
    refine And.intro (fun e => absurd e (by decide)) (fun _ => ?_)
    refine And.intro (fun e => absurd e (by decide)) (fun _ => ?_)
    refine And.intro (fun e => absurd e (by decide)) (fun _ => ?_)
    refine And.intro (fun _ => ?_) (fun e => absurd rfl e)
    refine And.intro (vp_in_iff.mpr (by decide)) ?_
    exact hR _ _ ⟨_, rfl, rfl⟩ hz
  · refine And.intro (fun _ => ?_) (fun e => absurd (by decide) e)
    refine And.intro (fun e => absurd e (by decide)) (fun _ => ?_)
    refine And.intro (fun e => absurd e (by decide)) (fun _ => ?_)
    refine And.intro (fun e => absurd e (by decide)) (fun _ => ?_)
    refine And.intro (fun e => absurd e (by decide)) (fun _ => ?_)
    refine And.intro (fun e => absurd e (by decide)) (fun _ => ?_)
    refine And.intro (fun e => absurd e (by decide)) (fun _ => ?_)
    refine And.intro (fun _ => ?_) (fun e => absurd rfl e)
    refine And.intro (vp_in_iff.mpr (by decide)) ?_
    exact hR _ _ ⟨_, rfl, rfl⟩ hz
  · refine And.intro (fun _ => ?_) (fun e => absurd (by decide) e)
    refine And.intro (fun e => absurd e (by decide)) (fun _ => ?_)
    refine And.intro (fun e => absurd e (by decide)) (fun _ => ?_)
    refine And.intro (fun e => absurd e (by decide)) (fun _ => ?_)
    refine And.intro (fun e => absurd e (by decide)) (fun _ => ?_)
    refine And.intro (fun e => absurd e (by decide)) (fun _ => ?_)
    refine And.intro (fun e => absurd e (by decide)) (fun _ => ?_)
    refine And.intro (fun e => absurd e (by decide)) (fun _ => ?_)
    refine And.intro (fun _ => ?_) (fun e => absurd rfl e)
    exact hR _ _ ⟨_, rfl, rfl⟩ hz
  · refine And.intro (fun _ => ?_) (fun e => absurd (by decide) e)
    refine And.intro (fun e => absurd e (by decide)) (fun _ => ?_)
    refine And.intro (fun e => absurd e (by decide)) (fun _ => ?_)
    refine And.intro (fun e => absurd e (by decide)) (fun _ => ?_)
    refine And.intro (fun e => absurd e (by decide)) (fun _ => ?_)
    refine And.intro (fun e => absurd e (by decide)) (fun _ => ?_)
    refine And.intro (fun e => absurd e (by decide)) (fun _ => ?_)
    refine And.intro (fun e => absurd e (by decide)) (fun _ => ?_)
    refine And.intro (fun e => absurd e (by decide)) (fun _ => ?_)
    refine And.intro (fun _ => ?_) (fun e => absurd rfl e)
    exact hR _ _ ⟨_, rfl, rfl⟩ hz
  · omega
set_option maxRecDepth 20000 in
theorem s_M_countR {d : Nat} {S : z_S} {Z : z_Zt} {v : Int32} (h1 : ¬ v ≤ 10) (h2 : ¬ 17 ≤ v) (hv : vp_in (v - 10) 7) (hz : Z (some (.inl (S.2 60 (v - 10).toNatClampNeg))) (z_H S)) : z_EvM (d + 4) 73 185 [z_p 59, .inl v] (z_H S) Z := by
  refine z_go (c := 8) (t := z_t185) rfl rfl rfl z_tk185 [] 100 (fun C K R hC hK hR => ?_)
  refine And.intro (fun e => absurd e h1) (fun _ => ?_)
  refine And.intro (fun e => absurd e h2) (fun _ => ?_)
  refine And.intro hv ?_
  exact hR _ _ ⟨_, rfl, rfl⟩ hz
set_option maxRecDepth 20000 in
theorem s_M_countN {d : Nat} {S : z_S} {Z : z_Zt} {v : Int32} (h1 : v ≤ 10 ∨ 17 ≤ v) (h2 : ∀ j, j < 9 → ¬ v = nI j) (hz : Z (some (.inl (-9))) (z_H S)) : z_EvM (d + 4) 73 185 [z_p 59, .inl v] (z_H S) Z := by
  have tail : z_Run (d + 4) 73 (z_own 8) z_m185.2.1 z_m185.2.2.1 none (fun v h' => z_nar z_m185.2.2.2.1 v ∧ Z v h') 22 [(0, z_p 59), (1, .inl v)] [] (z_H S) := by
    refine z_Run_of z_tk185 [] 100 (fun C K R hC hK hR => ?_)
    refine And.intro (fun e => absurd e (h2 0 (by omega))) (fun _ => ?_)
    refine And.intro (fun e => absurd e (h2 1 (by omega))) (fun _ => ?_)
    refine And.intro (fun e => absurd e (h2 2 (by omega))) (fun _ => ?_)
    refine And.intro (fun e => absurd e (h2 3 (by omega))) (fun _ => ?_)
    refine And.intro (fun e => absurd e (h2 4 (by omega))) (fun _ => ?_)
    refine And.intro (fun e => absurd e (h2 5 (by omega))) (fun _ => ?_)
    refine And.intro (fun e => absurd e (h2 6 (by omega))) (fun _ => ?_)
    refine And.intro (fun e => absurd e (h2 7 (by omega))) (fun _ => ?_)
    refine And.intro (fun e => absurd e (h2 8 (by omega))) (fun _ => ?_)
    exact hR _ _ ⟨⟨_, rfl, rfl⟩, hz⟩
  refine z_go (c := 8) (t := z_t185) rfl rfl rfl z_tk185 [(22, [0, 1])] 100 (fun C K R hC hK hR => ?_)
  refine And.intro (fun e => hK _ _ _ _ tail) (fun e => ?_)
  refine And.intro (fun e => hK _ _ _ _ tail) (fun e2 => ?_)
  exact absurd (h1.elim (fun z => absurd z e) id) e2
theorem cnt_k {v : Int32} (h1 : 11 ≤ v) (h2 : v ≤ 16) : ∃ k, k < 7 ∧ v - 10 = nI k := by
  obtain ⟨k, rfl⟩ := z_rng (x := v) 11 6 (n := 6) rfl (by decide) h1 (by grind) (by grind)
  refine ⟨k.val + 1, by omega, ?_⟩
  rw [nI_succ]
  grind
set_option maxRecDepth 20000 in
theorem op_count (v : Int32) : z_op 96 185 [.inl v] := by
  intro S hI Z hz
  obtain ⟨n, g, u, t, w, hok, hRl, him, ⟨ht8, ht1, ht2, ht3⟩, ⟨hw5, hw1, hw2, hw3⟩, hrf, hpl⟩ := id hI
  obtain ⟨⟨hn, hc⟩, -⟩ := id hok
  have ref : ∀ j a, j < 9 → v = nI j → a = cvF S n ((dN S).2 3) j → Z (some (.inl a)) (z_H S) := by
    intro j a h1 h2 h3
    refine hz _ _ (fun Z2 hz2 => ?_)
    exact s_M_count hRl hc hn h1 h2 h3 (hz2 _ _ rfl hI)
  refine z_go (c := 7) (t := z_t96) rfl rfl rfl z_tk96 [] 100 (fun C K R hC hK hR => ?_)
  refine And.intro (fun q => ?_) (fun q0 => And.intro (fun q => ?_) (fun q1 => And.intro (fun q => ?_) (fun q2 => And.intro (fun q => ?_) (fun q3 => And.intro (fun q => ?_) (fun q4 => And.intro (fun q => ?_) (fun q5 => And.intro (fun q => ?_) (fun q6 => And.intro (fun q => ?_) (fun q7 => And.intro (fun q => ?_) (fun q8 => ?_)))))))))
  · exact hR _ _ ⟨_, rfl, rfl⟩ (ref 0 _ (by omega) q (hRl.1 3 (by omega)).symm)
  · conv => whnf
    refine hC _ _ _ _ (s_B0_sitters hc hn ?_)
    exact hR _ _ ⟨_, rfl, rfl⟩ (ref 1 _ (by omega) q rfl)
  · exact hR _ _ ⟨_, rfl, rfl⟩ (ref 2 _ (by omega) q (hRl.1 0 (by omega)).symm)
  · exact hR _ _ ⟨_, rfl, rfl⟩ (ref 3 _ (by omega) q (hRl.1 1 (by omega)).symm)
  · exact hR _ _ ⟨_, rfl, rfl⟩ (ref 4 _ (by omega) q (hRl.1 2 (by omega)).symm)
  · exact hR _ _ ⟨_, rfl, rfl⟩ (ref 5 _ (by omega) q (hRl.1 4 (by omega)).symm)
  · exact hR _ _ ⟨_, rfl, rfl⟩ (ref 6 _ (by omega) q (hRl.1 5 (by omega)).symm)
  · exact hR _ _ ⟨_, rfl, rfl⟩ (ref 7 _ (by omega) q (hw1.trans hw2.symm))
  · exact hR _ _ ⟨_, rfl, rfl⟩ (ref 8 _ (by omega) q (ht1.trans ht2.symm))
  · have hnj : ∀ j, j < 9 → ¬ v = nI j := by
      intro j hj e
      rcases j with _ | _ | _ | _ | _ | _ | _ | _ | _ | j
      · exact q0 e
      · exact q1 e
      · exact q2 e
      · exact q3 e
      · exact q4 e
      · exact q5 e
      · exact q6 e
      · exact q7 e
      · exact q8 e
      · omega
    have non : (v ≤ 10 ∨ 17 ≤ v) → Z (some (.inl (-9))) (z_H S) := fun h => hz _ _ (fun Z2 hz2 => s_M_countN h hnj (hz2 _ _ rfl hI))
    refine And.intro (fun q => ?_) (fun q => And.intro (fun q2 => ?_) (fun q2 => ?_))
    · exact hR _ _ ⟨_, rfl, rfl⟩ (non (Or.inl (by clear hz hR hC hK ref non; grind)))
    · exact hR _ _ ⟨_, rfl, rfl⟩ (non (Or.inr (by clear hz hR hC hK ref non; grind)))
    · obtain ⟨k, hk, ek⟩ := cnt_k (v := v) (by clear hz hR hC hK ref non; grind) (by clear hz hR hC hK ref non; grind)
      have hv : vp_in (v - 10) 7 := by rw [ek]; exact vp_in_nI hk (by omega)
      refine And.intro hv ?_
      refine hR _ _ ⟨_, rfl, rfl⟩ (hz _ _ (fun Z2 hz2 => ?_))
      refine s_M_countR (by clear hz hR hC hK ref non hz2; grind) (by clear hz hR hC hK ref non hz2; grind) hv (hz2 _ _ ?_ hI)
      have ek2 : (v - 10).toNatClampNeg = k := by rw [ek]; exact nI_clamp (by omega)
      show S.2 60 (v - 10).toNatClampNeg = S.2 58 (v - 10).toNatClampNeg
      rw [ek2]
      exact (hrf k hk).symm
