/-! THE CALLS, one by one: class and reference answer alike -/
theorem Rl_sc {s : Nat → Int32} {D D' : z_S} (h : z_Rl s D) (j : Nat) (hj : j < 6) (x : Int32) (h1 : D'.1 j = x) (h2 : ∀ i, i < 6 → ¬ i = j → D'.1 i = D.1 i) (h3 : ∀ r, r < 11 → D'.2 r = D.2 r) : z_Rl (upd s j x) D' := by
  refine ⟨fun i hi => ?_, fun c hc i hi => ?_, fun c hc i hi => ?_, fun c hc i hi => ?_⟩
  · by_cases e : i = j
    · subst e; rw [pk_us, h1]
    · rw [pk_un e, h2 i hi e, h.1 i hi]
  · rw [pk_un (by omega), h.2.1 c hc i hi, h3 i (by omega)]
  · rw [pk_un (by omega), h.2.2.1 c hc i hi, h3 (4 + i) (by omega)]
  · rw [pk_un (by omega), h.2.2.2 c hc i hi, h3 (8 + i) (by omega)]
theorem Rl_kid {s : Nat → Int32} {D D' : z_S} (h : z_Rl s D) (k j : Nat) (hk : k < 5) (hj : j < 4) (x : Int32) (h1 : D'.2 j = upd (D.2 j) k x) (h2 : ∀ i, i < 6 → D'.1 i = D.1 i) (h3 : ∀ r, r < 11 → ¬ r = j → D'.2 r = D.2 r) : z_Rl (upd s (6 + 4 * k + j) x) D' := by
  refine ⟨fun i hi => ?_, fun c hc i hi => ?_, fun c hc i hi => ?_, fun c hc i hi => ?_⟩
  · rw [pk_un (by omega), h2 i hi, h.1 i hi]
  · by_cases e : i = j
    · subst e
      rw [h1]
      by_cases e2 : c = k
      · subst e2; rw [pk_us, pk_us]
      · rw [pk_un (by omega), pk_un e2, h.2.1 c hc i hi]
    · rw [pk_un (by omega), h3 i (by omega) e, h.2.1 c hc i hi]
  · rw [pk_un (by omega), h.2.2.1 c hc i hi, h3 (4 + i) (by omega) (by omega)]
  · rw [pk_un (by omega), h.2.2.2 c hc i hi, h3 (8 + i) (by omega) (by omega)]
theorem s_P_forget {d : Nat} {S : z_S} {Z : z_Zt} (hz : Z none (z_H (z_u S 22 0))) : z_EvM (d + 1) 73 42 [z_p 41] (z_H S) Z := by
  refine z_go (c := 4) (t := z_t42) rfl rfl rfl z_tk42 [] 100 (fun C K R hC hK hR => ?_)
  refine And.intro (Or.inl rfl) ?_
  exact hR _ _ rfl hz
theorem op_notch (v : Int32) : z_op 68 136 [.inl v] := by
  intro S hI Z hz
  obtain ⟨n, g, u, t, w, hok, hRl, him, htx, hrw, hrf, hpl⟩ := id hI
  refine z_go (c := 7) (t := z_t68) rfl rfl rfl z_tk68 [] 100 (fun C K R hC hK hR => ?_)
  refine And.intro (fun q => And.intro (fun q2 => ?_) (fun q2 => ?_)) (fun q => ?_)
  · conv => whnf
    refine hC _ _ _ _ (s_P_forget (S := z_u S 2 v) ?_)
    refine hR _ _ ⟨_, rfl, rfl⟩ (hz _ (z_u (z_u S 2 v) 22 0) (fun Z2 hz2 => ?_))
    refine z_go (c := 8) (t := z_t136) rfl rfl rfl z_tk136 [] 100 (fun C K R hC hK hR => ?_)
    conv => whnf
    refine hC _ _ _ _ (s_M_within (fun r hr => ?_))
    have hr0 : r = 0 := by clear hz hR hC hK hz2; grind
    refine And.intro (fun _ => ?_) (fun e => absurd hr0 e)
    refine And.intro (vp_in_iff.mpr (by decide)) ?_
    refine And.intro (vp_in_iff.mpr (by decide)) ?_
    refine hR _ _ ⟨_, rfl, rfl⟩ ?_
    have e2 : S.2 61 2 = S.1 2 := hRl.1 2 (by omega)
    refine hz2 _ (z_w (z_u (z_u S 2 v) 22 0) 61 (upd (S.2 61) 2 v)) e2 ⟨n, g, u, t, w, ?_, ?_, him, htx, hrw, hrf, Or.inl rfl⟩
    · obtain ⟨o1, o2, o3, o4, o5, o6, o7⟩ := hok
      exact ⟨o1, o2, o3, o4, o5, ⟨q, q2⟩, o7⟩
    · exact Rl_sc hRl 2 (by omega) v rfl (fun i hi hne => by rcases i with _ | _ | _ | _ | _ | _ | i <;> first | rfl | omega) (fun r hr => by rcases r with _ | _ | _ | _ | _ | _ | _ | _ | _ | _ | _ | r <;> first | rfl | omega)
  · conv => whnf
    refine hC _ _ _ _ (s_X_refuse 6 (by omega) rfl ?_)
    refine hR _ _ ⟨_, rfl, rfl⟩ (hz _ (z_rx S 6) (fun Z2 hz2 => ?_))
    refine z_go (c := 8) (t := z_t136) rfl rfl rfl z_tk136 [] 100 (fun C K R hC hK hR => ?_)
    conv => whnf
    refine hC _ _ _ _ (s_M_within (fun r hr => ?_))
    have hr0 : r = -6 := by clear hz hR hC hK hz2; grind
    subst hr0
    refine And.intro (fun e => absurd e (by decide)) (fun _ => ?_)
    conv => whnf
    refine hC _ _ _ _ (s_M_refuse (k := 6) (by omega) rfl ?_)
    exact hR _ _ ⟨_, rfl, rfl⟩ (hz2 _ _ rfl (Inv_ref hI (by omega)))
  · conv => whnf
    refine hC _ _ _ _ (s_X_refuse 4 (by omega) rfl ?_)
    refine hR _ _ ⟨_, rfl, rfl⟩ (hz _ (z_rx S 4) (fun Z2 hz2 => ?_))
    refine z_go (c := 8) (t := z_t136) rfl rfl rfl z_tk136 [] 100 (fun C K R hC hK hR => ?_)
    conv => whnf
    refine hC _ _ _ _ (s_M_within (fun r hr => ?_))
    have hr0 : r = -4 := by clear hz hR hC hK hz2; grind
    subst hr0
    refine And.intro (fun e => absurd e (by decide)) (fun _ => ?_)
    conv => whnf
    refine hC _ _ _ _ (s_M_refuse (k := 4) (by omega) rfl ?_)
    exact hR _ _ ⟨_, rfl, rfl⟩ (hz2 _ _ rfl (Inv_ref hI (by omega)))
