theorem op_row (v : Int32) : z_op 92 181 [.inl v] := by
  intro S hI Z hz
  obtain ⟨n, g, u, t, w, hok, hRl, him, htx, ⟨hw5, hw1, hw2, hw3⟩, hrf, hpl⟩ := id hI
  have hw5' : nI w ≤ 5 := nI_le (a := w) (b := 5) hw5 (by omega)
  have ref : ∀ (k : Nat) (x : Int32), k < 7 → -x = nI k → ¬ x = 0 → (v < 0 → x = -4) → (¬ v < 0 → x = -6) → (v < 0 ∨ 13 < v ∨ nI w = 5) → ∀ Z2 : z_Zt, (∀ (b : Int32) (S2 : z_S), b = x → Inv S2 → Z2 (some (.inl b)) (z_H S2)) → z_EvM 30 73 181 [z_p 59, .inl v] (z_H (z_rx S k)) Z2 := by
    intro k x hk hx hx0 h4 h6 hor Z2 hz2
    refine z_go (c := 8) (t := z_t181) rfl rfl rfl z_tk181 [] 100 (fun C K R hC hK hR => ?_)
    conv => whnf
    refine hC _ _ _ _ (s_M_within (fun r hr => ?_))
    refine And.intro (fun q => ?_) (fun q => And.intro (fun q2 => ?_) (fun q2 => ?_))
    · have e : r = x := by clear hz hR hC hK hz2; grind
      subst e
      refine And.intro (fun e => absurd e hx0) (fun _ => ?_)
      conv => whnf
      refine hC _ _ _ _ (s_M_refuse hk hx ?_)
      exact hR _ _ ⟨_, rfl, rfl⟩ (hz2 _ _ rfl (Inv_ref hI hk))
    · exfalso
      have q2 : ¬ S.1 48 = 5 := q2
      rw [hw2] at q2
      clear hz hR hC hK hz2
      grind
    · have e : (-6 : Int32) = x := by clear hz hR hC hK hz2; grind
      subst e
      refine And.intro (fun e => absurd e (by decide)) (fun _ => ?_)
      conv => whnf
      refine hC _ _ _ _ (s_M_refuse hk hx ?_)
      exact hR _ _ ⟨_, rfl, rfl⟩ (hz2 _ _ rfl (Inv_ref hI hk))
  refine z_go (c := 7) (t := z_t92) rfl rfl rfl z_tk92 [] 100 (fun C K R hC hK hR => ?_)
  refine And.intro (fun q => And.intro (fun q2 => ?_) (fun q2 => And.intro (fun q3 => ?_) (fun q3 => ?_))) (fun q => ?_)
  · conv => whnf
    refine hC _ _ _ _ (s_X_refuse 6 (by omega) rfl ?_)
    exact hR _ _ ⟨_, rfl, rfl⟩ (hz _ _ (ref 6 (-6) (by omega) rfl (by decide) (fun h => absurd h (by clear hz hR hC hK; grind)) (fun _ => rfl) (Or.inr (Or.inl q2))))
  · have q3 : S.1 37 < 5 := q3
    have hlt : w < 5 := by
      rw [hw1] at q3
      exact (nI_ltI (a := w) (b := 5) (by omega) (by omega)).mp q3
    have hcl : (nI w).toNatClampNeg = w := nI_clamp (by omega)
    have hvi : vp_in (nI w) 5 := vp_in_nI hlt (by omega)
    refine And.intro (show vp_in (S.1 37) 5 by rw [hw1]; exact hvi) ?_
    refine hR _ _ ⟨_, rfl, rfl⟩ (hz (S.1 37 + 1) (z_u (z_w S 57 (upd (S.2 57) (S.1 37).toNatClampNeg v)) 37 (S.1 37 + 1)) (fun Z2 hz2 => ?_))
    refine z_go (c := 8) (t := z_t181) rfl rfl rfl z_tk181 [] 100 (fun C K R hC hK hR => ?_)
    conv => whnf
    refine hC _ _ _ _ (s_M_within (fun r hr => ?_))
    have e : r = 0 := by clear hz hR hC hK hz2; grind
    subst e
    refine And.intro (fun e => absurd rfl e) (fun _ => And.intro (fun q4 => ?_) (fun q4 => ?_))
    · refine And.intro (fun _ => ?_) (fun e => absurd rfl e)
      refine And.intro (show vp_in (S.1 48) 5 by rw [hw2]; exact hvi) ?_
      refine hR _ _ ⟨_, rfl, rfl⟩ ?_
      have e1 : S.1 48 + 1 = S.1 37 + 1 := by rw [hw1, hw2]
      sorry
    · exfalso
      have q4 : S.1 48 = 5 := q4
      rw [hw2] at q4
      rw [hw1] at q3
      clear hz hR hC hK hz2
      grind
  · conv => whnf
    refine hC _ _ _ _ (s_X_refuse 6 (by omega) rfl ?_)
    have q3 : ¬ S.1 37 < 5 := q3
    rw [hw1] at q3
    exact hR _ _ ⟨_, rfl, rfl⟩ (hz _ _ (ref 6 (-6) (by omega) rfl (by decide) (fun h => absurd h (by clear hz hR hC hK; grind)) (fun _ => rfl) (Or.inr (Or.inr (by clear hz hR hC hK; grind)))))
  · conv => whnf
    refine hC _ _ _ _ (s_X_refuse 4 (by omega) rfl ?_)
    exact hR _ _ ⟨_, rfl, rfl⟩ (hz _ _ (ref 4 (-4) (by omega) rfl (by decide) (fun _ => rfl) (fun h => absurd h (by clear hz hR hC hK; grind)) (Or.inl (by clear hz hR hC hK; grind))))
