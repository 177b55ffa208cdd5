/-! seeds: the reference's outer loop; the call -/
theorem add_0 (x : Int32) : x + 0 = x := by grind
section
variable {d n L N : Nat} {S D : z_S} {Z : z_Zt} {what zz : Int32} {nx : Int32 → Int32}
set_option maxRecDepth 20000 in
theorem l_M_seeds (hnx : ∀ z, nx z = z * 1664525 + 1013904223) (hc : D.1 3 = nI n) (hn : n ≤ 5) (hL : D.1 0 = nI L) (h1 : 1 ≤ L) (h6 : L ≤ 6) (hN : N ≤ 20) (hw : isN what 2) : ∀ m k z c (f fe : Nat → Int32), k + m = N → z_Rl f (dF D fe) → (∀ f', (∀ i, i < 90 → f' i = S.2 71 i) → Z (some (.inl (seF nx D L n (if what = 0 then 1 else 2) m z c))) (z_H (z_w S 61 f'))) → z_Run (d + 5) 73 (z_own 8) z_m180.2.1 z_m180.2.2.1 none (fun v h' => z_nar z_m180.2.2.2.1 v ∧ Z v h') 58 [(0, z_p 59), (1, .inl (nI N)), (3, .inl what), (5, .inl z), (6, .inl c), (7, .inl (nI k))] [] (z_H (z_w S 61 f)) := by
  intro m
  induction m with
  | zero =>
    intro k z c f fe hk hf hz
    have hk : k = N := by omega
    subst hk
    refine z_Run_of z_tk180 [] 60 (fun C K R hC hK hR => ?_)
    refine And.intro (fun q => ?_) (fun q => absurd (nI_le (Nat.le_refl k) (by omega)) q)
    conv => whnf
    refine hC _ _ _ _ (s_M_copies71_61 (S := z_w S 61 f) (fun f' hf' => ?_))
    exact hR _ _ ⟨⟨_, rfl, rfl⟩, hz f' hf'⟩
  | succ m ih =>
    intro k z c f fe hk hf hz
    have hk1 : ¬ nI N ≤ nI k := nI_ge (by omega) (by omega)
    refine z_Run_of z_tk180 [(67, [0, 1, 3, 5, 6, 7, 8])] 60 (fun C K R hC hK hR => ?_)
    refine And.intro (fun q => absurd q hk1) (fun q => ?_)
    refine hK _ _ _ _ (l_M_seeds0 (d := d + 1) (S := S) (D := D) hc hn (fun f2 fe2 hf2 hfe2 => ?_) n 0 f fe (by omega) hf (fun i hi => by omega))
    refine z_Run_of z_tk180 [(102, [0, 1, 3, 5, 6, 7, 8])] 60 (fun C K R hC hK hR => ?_)
    refine hK _ _ _ _ (l_M_seeds1 (d := d + 1) (S := S) (D := D) hnx hc hn hL h1 h6 n 0 (fun _ => 0) z f2 fe2 (by omega) hf2 hfe2 (fun f3 fe3 hf3 hfe3 => ?_))
    refine z_Run_of z_tk180 [(58, [0, 1, 3, 5, 6, 7])] 60 (fun C K R hC hK hR => ?_)
    conv => whnf
    refine hC _ _ _ _ (s_M_sumNow (S := z_w S 61 f3) (D := dF D fe3) hf3 hc hn ?_)
    have es : sumF (D.1 1) (D.1 2) (D.2 0) (D.2 1) fe3 n = sumF (D.1 1) (D.1 2) (D.2 0) (D.2 1) (drF nx L n n 0 (fun _ => 0) z).1 n := sum_cg n (fun i hi => ⟨rfl, rfl, hfe3 i hi⟩)
    conv => whnf
    refine hC _ _ _ _ (s_M_downBy (h := z_H (z_w S 61 f3)) (fun r hr => ?_))
    have hr : r = sideF (sumF (D.1 1) (D.1 2) (D.2 0) (D.2 1) (drF nx L n n 0 (fun _ => 0) z).1 n) := hr.trans (by rw [← es]; rfl)
    have yes : ∀ wa : Int32, wa = (if what = 0 then 1 else 2) → r = wa → z_Run (d + 5) 73 (z_own 8) z_m180.2.1 z_m180.2.2.1 none (fun v h' => z_nar z_m180.2.2.2.1 v ∧ Z v h') 58 [(0, z_p 59), (1, .inl (nI N)), (3, .inl what), (5, .inl (drF nx L n n 0 (fun _ => 0) z).2), (6, .inl (c + 1)), (7, .inl (nI k + 1))] [] (z_H (z_w S 61 f3)) := by
      intro wa h1 h2
      rw [hr, h1] at h2
      have := ih (k + 1) (drF nx L n n 0 (fun _ => 0) z).2 (c + 1) f3 fe3 (by omega) hf3 (fun f' hf' => by
        have := hz f'
        rw [seF, if_pos h2] at this
        exact this hf')
      rw [nI_succ] at this
      exact this
    have no : ∀ wa : Int32, wa = (if what = 0 then 1 else 2) → ¬ r = wa → z_Run (d + 5) 73 (z_own 8) z_m180.2.1 z_m180.2.2.1 none (fun v h' => z_nar z_m180.2.2.2.1 v ∧ Z v h') 58 [(0, z_p 59), (1, .inl (nI N)), (3, .inl what), (5, .inl (drF nx L n n 0 (fun _ => 0) z).2), (6, .inl (c + 0)), (7, .inl (nI k + 1))] [] (z_H (z_w S 61 f3)) := by
      intro wa h1 h2
      rw [hr, h1] at h2
      have := ih (k + 1) (drF nx L n n 0 (fun _ => 0) z).2 c f3 fe3 (by omega) hf3 (fun f' hf' => by
        have := hz f'
        rw [seF, if_neg h2] at this
        exact this hf')
      rw [nI_succ] at this
      rw [add_0]
      exact this
    refine And.intro (fun e => ?_) (fun e => ?_)
    · refine And.intro (fun e2 => hK _ _ _ _ (no 2 (by rw [if_neg e]) e2)) (fun e2 => hK _ _ _ _ (yes 2 (by rw [if_neg e]) e2))
    · refine And.intro (fun e2 => hK _ _ _ _ (no 1 (by rw [if_pos e]) e2)) (fun e2 => hK _ _ _ _ (yes 1 (by rw [if_pos e]) e2))
set_option maxRecDepth 20000 in
theorem s_M_seedsOk (hnx : ∀ z, nx z = z * 1664525 + 1013904223) {z : Int32} (hD : z_Rl (S.2 61) D) (hc : D.1 3 = nI n) (hn : n ≤ 5) (hL : D.1 0 = nI L) (h1 : 1 ≤ L) (h6 : L ≤ 6) (hN1 : 1 ≤ N) (hN : N ≤ 20) (hw : isN what 2) (hz : ∀ g f', (∀ i, i < 90 → f' i = S.2 61 i) → Z (some (.inl (seF nx D L n (if what = 0 then 1 else 2) N z 0))) (z_H (z_w (z_w S 71 g) 61 f'))) : z_EvM (d + 5) 73 180 [z_p 59, .inl (nI N), .inl z, .inl what] (z_H S) Z := by
  refine z_go (c := 8) (t := z_t180) rfl rfl rfl z_tk180 [(58, [0, 1, 3, 5, 6, 7])] 60 (fun C K R hC hK hR => ?_)
  conv => whnf
  refine hC _ _ _ _ (s_M_within (fun r hr => ?_))
  have e' : r = 0 := wi_ok hr (nI_nlt (a := N) (b := 1) hN1 (by omega)) (nI_nlt (a := 20) (b := N) hN (by omega))
  subst e'
  refine And.intro (fun e => absurd rfl e) (fun _ => ?_)
  conv => whnf
  refine hC _ _ _ _ (s_M_isInP 2 (by omega) rfl (fun r1 hr1 => ?_))
  refine And.intro (fun _ => ?_) (fun e => absurd hw (zb_f hr1 e))
  refine And.intro (fun _ => ?_) (fun e => absurd rfl e)
  conv => whnf
  refine hC _ _ _ _ (s_M_copies61_71 (fun g hg => ?_))
  have := l_M_seeds (d := d) (S := z_w S 71 g) (D := D) (Z := Z) (N := N) hnx hc hn hL h1 h6 hN hw N 0 z 0 (S.2 61) (D.2 3) (by omega) (dF_id hD) (fun f' hf' => hz g f' (fun i hi => by rw [hf' i hi]; exact hg i hi))
  exact hK _ _ _ _ this
set_option maxRecDepth 20000 in
theorem s_M_seedsNo {N z what : Int32} {j : Nat} (k : Int32) (hkj : -k = nI j) (hj : j < 7) (hk0 : ¬ k = 0) (hwhy : (k = -4 ∧ N < 1) ∨ (k = -6 ∧ ¬ N < 1 ∧ 20 < N) ∨ (k = -2 ∧ ¬ N < 1 ∧ ¬ 20 < N ∧ ¬ isN what 2)) (hz : Z (some (.inl k)) (z_H (z_rm2 S j))) : z_EvM (d + 5) 73 180 [z_p 59, .inl N, .inl z, .inl what] (z_H S) Z := by
  have last : z_Run (d + 5) 73 (z_own 8) z_m180.2.1 z_m180.2.2.1 none (fun v h' => z_nar z_m180.2.2.2.1 v ∧ Z v h') 26 [(0, z_p 59), (4, .inl k)] [] (z_H S) := by
    refine z_Run_of z_tk180 [] 100 (fun C K R hC hK hR => ?_)
    refine And.intro (fun e => absurd e hk0) (fun _ => ?_)
    conv => whnf
    refine hC _ _ _ _ (s_M_refuse (k := j) hj hkj ?_)
    exact hR _ _ ⟨⟨_, rfl, rfl⟩, hz⟩
  refine z_go (c := 8) (t := z_t180) rfl rfl rfl z_tk180 [(26, [0, 4])] 60 (fun C K R hC hK hR => ?_)
  conv => whnf
  refine hC _ _ _ _ (s_M_within (fun r hr => ?_))
  rcases hwhy with ⟨hk, h1⟩ | ⟨hk, h1, h2⟩ | ⟨hk, h1, h2, h3⟩
  · have e' : r = k := (wi_lo hr h1).trans hk.symm
    subst e'
    refine And.intro (fun _ => hK _ _ _ _ last) (fun e => absurd e hk0)
  · have e' : r = k := (wi_hi hr h1 h2).trans hk.symm
    subst e'
    refine And.intro (fun _ => hK _ _ _ _ last) (fun e => absurd e hk0)
  · have e' : r = 0 := wi_ok hr h1 h2
    subst e'
    subst hk
    refine And.intro (fun e => absurd rfl e) (fun _ => ?_)
    conv => whnf
    refine hC _ _ _ _ (s_M_isInP 2 (by omega) rfl (fun r1 hr1 => ?_))
    refine And.intro (fun e => absurd (zb_t hr1 e) h3) (fun _ => hK _ _ _ _ last)
end
theorem Inv_sd {S : z_S} (hI : Inv S) (g f' f13 : Nat → Int32) (hf : ∀ i, i < 90 → f' i = S.2 61 i) : Inv (z_w (z_w (z_w (bec10 S) 13 f13) 71 g) 61 f') := by
  obtain ⟨n, gg, u, t, w, hok, hRl, him, htx, hrw, hrf, hpl⟩ := hI
  exact ⟨n, gg, u, t, w, hok, dq_Rl hRl hf (dq_rf _), him, htx, hrw, hrf, hpl⟩
set_option maxRecDepth 20000 in
theorem op_seeds (N z what : Int32) : z_op 91 180 [.inl N, .inl z, .inl what] := by
  intro S hI Z hz
  obtain ⟨n, g, u, t, w, hok, hRl, him, htx, hrw, hrf, hpl⟩ := id hI
  obtain ⟨⟨hn, hc⟩, hg, hu, hL, hO, hV, hf, hwe, hdi, hgu⟩ := id hok
  obtain ⟨L, hL1, hL6, hLe⟩ := len_N hL.1 hL.2
  obtain ⟨nx, hnx⟩ : ∃ nx : Int32 → Int32, ∀ z, nx z = z * 1664525 + 1013904223 := ⟨_, fun _ => rfl⟩
  have main : isN what 2 → ¬ N < 1 → ¬ 20 < N → z_Run 600 73 (z_own 7) z_m91.2.1 z_m91.2.2.1 none (fun v h' => z_nar z_m91.2.2.2.1 v ∧ Z v h') 41 [(0, z_p 0), (1, .inl N), (2, .inl z), (3, .inl what)] [] (z_H S) := by
    intro hw hN1 hN2
    obtain ⟨M, m1, m2, rfl⟩ := inN (lo := 1) (hi := 20) (nlt_ge hN1) (nlt_ge hN2) (by omega) (by omega)
    have fin : ∀ f13, Z (some (.inl (seF nx (dN S) L n (if what = 0 then 1 else 2) M z 0))) (z_H (z_w (bec10 S) 13 f13)) := by
      intro f13
      refine hz _ (z_w (bec10 S) 13 f13) (fun Z2 hz2 => ?_)
      exact s_M_seedsOk (S := z_w (bec10 S) 13 f13) (D := dN S) hnx hRl hc hn hLe hL1 hL6 m1 m2 hw (fun g f' hf' => hz2 _ _ rfl (Inv_sd hI g f' f13 hf'))
    have loop : ∀ wa : Int32, wa = (if what = 0 then 1 else 2) → ∀ f, z_Run 600 73 (z_own 7) z_m91.2.1 z_m91.2.2.1 none (fun v h' => z_nar z_m91.2.2.2.1 v ∧ Z v h') 72 [(0, z_p 0), (1, .inl (nI M)), (2, .inl z), (3, .inl what), (4, .inl wa), (5, .inl 0), (6, .inl z), (7, .inl (nI 0))] [] (z_H (z_w (bec10 S) 13 f)) := by
      intro wa hwa f
      refine l_X_seeds (d := 594) (S := bec10 S) (D := dN S) hnx hc hn hLe hL1 hL6 hV rfl rfl (fun i hi => ⟨cpy_at (f := S.2 5) (g := S.2 10) (by omega), cpy_at (f := S.2 6) (g := S.2 11) (by omega)⟩) m2 M 0 z 0 f (by omega) (fun f' => ?_)
      rw [hwa]
      exact fin f'
    refine z_Run_of z_tk91 [(72, [0, 1, 2, 3, 4, 5, 6, 7])] 60 (fun C K R hC hK hR => ?_)
    refine And.intro (fun e => ?_) (fun e => ?_)
    · conv => whnf
      refine hC _ _ _ _ (s_B_become10 ?_)
      exact hK _ _ _ _ (loop 2 (by rw [if_neg e]) (va_cpy (S.2 8) (S.2 13) 0 0 5))
    · conv => whnf
      refine hC _ _ _ _ (s_B_become10 ?_)
      exact hK _ _ _ _ (loop 1 (by rw [if_pos e]) (va_cpy (S.2 8) (S.2 13) 0 0 5))
  have no : ∀ (k : Int32) (j : Nat), -k = nI j → j < 7 → ¬ k = 0 → ((k = -4 ∧ N < 1) ∨ (k = -6 ∧ ¬ N < 1 ∧ 20 < N) ∨ (k = -2 ∧ ¬ N < 1 ∧ ¬ 20 < N ∧ ¬ isN what 2)) → Z (some (.inl k)) (z_H (z_rx S j)) := by
    intro k j a1 a2 a3 a4
    refine hz _ _ (fun Z2 hz2 => ?_)
    exact s_M_seedsNo (S := z_rx S j) k a1 a2 a3 a4 (hz2 _ _ rfl (Inv_ref hI a2))
  refine z_go (c := 7) (t := z_t91) rfl rfl rfl z_tk91 [(41, [0, 1, 2, 3])] 60 (fun C K R hC hK hR => ?_)
  refine And.intro (fun q => ?_) (fun q => ?_)
  · refine And.intro (fun q2 => ?_) (fun q2 => ?_)
    · refine And.intro (fun q3 => hK _ _ _ _ (main (isN2.mpr (Or.inl q3)) (nlt_le q) (nlt_le q2))) (fun q3 => And.intro (fun q4 => hK _ _ _ _ (main (isN2.mpr (Or.inr q4)) (nlt_le q) (nlt_le q2))) (fun q4 => ?_))
      conv => whnf
      refine hC _ _ _ _ (s_X_refuse 2 (by omega) rfl ?_)
      exact hR _ _ ⟨_, rfl, rfl⟩ (no (-2) 2 rfl (by omega) (by decide) (Or.inr (Or.inr ⟨rfl, nlt_le q, nlt_le q2, fun zz => (isN2.mp zz).elim q3 q4⟩)))
    · conv => whnf
      refine hC _ _ _ _ (s_X_refuse 6 (by omega) rfl ?_)
      exact hR _ _ ⟨_, rfl, rfl⟩ (no (-6) 6 rfl (by omega) (by decide) (Or.inr (Or.inl ⟨rfl, nlt_le q, lt_nge q2⟩)))
  · conv => whnf
    refine hC _ _ _ _ (s_X_refuse 4 (by omega) rfl ?_)
    exact hR _ _ ⟨_, rfl, rfl⟩ (no (-4) 4 rfl (by omega) (by decide) (Or.inl ⟨rfl, lt_nge q⟩))
