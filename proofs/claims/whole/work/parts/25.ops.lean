/-! image, on; bucket, notchBest -/
def imX (S : z_S) : z_S := z_u (uec10 (gec10 (bec20 S))) 38 1
def onX (S : z_S) : z_S := z_u (uec01 (gec01 (bec02 S))) 22 0
theorem dq_im (S : z_S) : z_dq (dN S) (dK (imX S)) := by
  refine ⟨fun i hi => ?_, fun r hr k hk => ?_, fun r hr k hk => ?_, fun r hr k hk => ?_⟩
  · rcases i with _ | _ | _ | _ | _ | _ | i <;> first | rfl | omega
  · rcases r with _ | _ | _ | _ | r
    · exact cpy_at (f := S.2 5) (g := S.2 15) hk
    · exact cpy_at (f := S.2 6) (g := S.2 16) hk
    · exact cpy_at (f := S.2 7) (g := S.2 17) hk
    · exact cpy_at (f := S.2 8) (g := S.2 18) hk
    · omega
  · rcases r with _ | _ | _ | _ | r
    · exact cpy_at (f := S.2 20) (g := S.2 27) hk
    · exact cpy_at (f := S.2 21) (g := S.2 28) hk
    · exact cpy_at (f := S.2 22) (g := S.2 29) hk
    · exact cpy_at (f := S.2 23) (g := S.2 30) hk
    · omega
  · rcases r with _ | _ | _ | r
    · exact cpy_at (f := S.2 34) (g := S.2 38) hk
    · exact cpy_at (f := S.2 35) (g := S.2 39) hk
    · exact cpy_at (f := S.2 36) (g := S.2 40) hk
    · omega
theorem dq_on (S : z_S) : z_dq (dK S) (dN (onX S)) := by
  refine ⟨fun i hi => ?_, fun r hr k hk => ?_, fun r hr k hk => ?_, fun r hr k hk => ?_⟩
  · rcases i with _ | _ | _ | _ | _ | _ | i <;> first | rfl | omega
  · rcases r with _ | _ | _ | _ | r
    · exact cpy_at (f := S.2 15) (g := S.2 5) hk
    · exact cpy_at (f := S.2 16) (g := S.2 6) hk
    · exact cpy_at (f := S.2 17) (g := S.2 7) hk
    · exact cpy_at (f := S.2 18) (g := S.2 8) hk
    · omega
  · rcases r with _ | _ | _ | _ | r
    · exact cpy_at (f := S.2 27) (g := S.2 20) hk
    · exact cpy_at (f := S.2 28) (g := S.2 21) hk
    · exact cpy_at (f := S.2 29) (g := S.2 22) hk
    · exact cpy_at (f := S.2 30) (g := S.2 23) hk
    · omega
  · rcases r with _ | _ | _ | r
    · exact cpy_at (f := S.2 38) (g := S.2 34) hk
    · exact cpy_at (f := S.2 39) (g := S.2 35) hk
    · exact cpy_at (f := S.2 40) (g := S.2 36) hk
    · omega
set_option maxRecDepth 20000 in
theorem s_M_image {d : Nat} {S : z_S} {Z : z_Zt} (hz : ∀ f : Nat → Int32, (∀ i, i < 90 → f i = S.2 61 i) → Z (some (.inl (S.2 61 3))) (z_H (z_u (z_w S 62 f) 39 1))) : z_EvM (d + 2) 73 183 [z_p 59] (z_H S) Z := by
  refine z_go (c := 8) (t := z_t183) rfl rfl rfl z_tk183 [] 100 (fun C K R hC hK hR => ?_)
  conv => whnf
  refine hC _ _ _ _ (s_M_copies61_62 (fun f hf => ?_))
  refine And.intro (Or.inr rfl) ?_
  refine And.intro (vp_in_iff.mpr (by decide)) ?_
  exact hR _ _ ⟨_, rfl, rfl⟩ (hz f hf)
set_option maxRecDepth 20000 in
theorem s_M_onOk {d : Nat} {S : z_S} {Z : z_Zt} (h1 : S.1 39 = 1) (hz : ∀ f : Nat → Int32, (∀ i, i < 90 → f i = S.2 62 i) → Z (some (.inl (f 3))) (z_H (z_w S 61 f))) : z_EvM (d + 2) 73 184 [z_p 59] (z_H S) Z := by
  refine z_go (c := 8) (t := z_t184) rfl rfl rfl z_tk184 [] 100 (fun C K R hC hK hR => ?_)
  refine And.intro (fun _ => ?_) (fun e => absurd (h1.symm.trans e) (by decide))
  conv => whnf
  refine hC _ _ _ _ (s_M_copies62_61 (fun f hf => ?_))
  refine And.intro (vp_in_iff.mpr (by decide)) ?_
  exact hR _ _ ⟨_, rfl, rfl⟩ (hz f hf)
set_option maxRecDepth 20000 in
theorem s_M_onNo {d : Nat} {S : z_S} {Z : z_Zt} (h1 : S.1 39 = 0) (hz : Z (some (.inl (-3))) (z_H (z_rm2 S 3))) : z_EvM (d + 2) 73 184 [z_p 59] (z_H S) Z := by
  refine z_go (c := 8) (t := z_t184) rfl rfl rfl z_tk184 [] 100 (fun C K R hC hK hR => ?_)
  refine And.intro (fun e => absurd h1 e) (fun _ => ?_)
  conv => whnf
  refine hC _ _ _ _ (s_M_refuse (k := 3) (by omega) rfl ?_)
  exact hR _ _ ⟨_, rfl, rfl⟩ hz
set_option maxRecDepth 20000 in
theorem op_image : z_op 94 183 [] := by
  intro S hI Z hz
  obtain ⟨n, g, u, t, w, hok, hRl, him, htx, hrw, hrf, hpl⟩ := id hI
  refine z_go (c := 7) (t := z_t94) rfl rfl rfl z_tk94 [] 100 (fun C K R hC hK hR => ?_)
  conv => whnf
  refine hC _ _ _ _ (s_B_become20 ?_)
  conv => whnf
  refine hC _ _ _ _ (s_G_become10 (S := bec20 S) ?_)
  conv => whnf
  refine hC _ _ _ _ (s_U_become10 (S := gec10 (bec20 S)) ?_)
  refine And.intro (Or.inr rfl) ?_
  refine hR _ _ ⟨_, rfl, rfl⟩ (hz (S.1 3) (imX S) (fun Z2 hz2 => ?_))
  refine s_M_image (S := imX S) (fun f hf => hz2 _ _ (hRl.1 3 (by omega)) ⟨n, g, u, t, w, hok, hRl, ?_, htx, hrw, hrf, hpl⟩)
  exact Or.inr ⟨rfl, rfl, dq_Rl hRl hf (dq_im S), n, g, u, dq_ok hok (dq_im S)⟩
set_option maxRecDepth 20000 in
theorem op_on : z_op 95 184 [] := by
  intro S hI Z hz
  obtain ⟨n, g, u, t, w, hok, hRl, him, htx, hrw, hrf, hpl⟩ := id hI
  refine z_go (c := 7) (t := z_t95) rfl rfl rfl z_tk95 [] 100 (fun C K R hC hK hR => ?_)
  refine And.intro (fun q => ?_) (fun q => ?_)
  · have q : ¬ S.1 38 = 0 := q
    rcases him with ⟨h1, h2⟩ | ⟨h1, h2, h3, n2, g2, u2, h4⟩
    · exact absurd h1 q
    · conv => whnf
      refine hC _ _ _ _ (s_B_become02 ?_)
      conv => whnf
      refine hC _ _ _ _ (s_G_become01 (S := bec02 S) ?_)
      conv => whnf
      refine hC _ _ _ _ (s_U_become01 (S := gec01 (bec02 S)) ?_)
      conv => whnf
      refine hC _ _ _ _ (s_P_forget (S := uec01 (gec01 (bec02 S))) ?_)
      refine hR _ _ ⟨_, rfl, rfl⟩ (hz (S.1 11) (onX S) (fun Z2 hz2 => ?_))
      refine s_M_onOk (S := onX S) h2 (fun f hf => hz2 _ _ ?_ ⟨n2, g2, u2, t, w, dq_ok h4 (dq_on S), dq_Rl h3 hf (dq_on S), Or.inr ⟨h1, h2, h3, n2, g2, u2, h4⟩, htx, hrw, hrf, Or.inl rfl⟩)
      exact (hf 3 (by omega)).trans (h3.1 3 (by omega))
  · have q : S.1 38 = 0 := q
    rcases him with ⟨h1, h2⟩ | ⟨h1, h2, h3⟩
    · conv => whnf
      refine hC _ _ _ _ (s_X_refuse 3 (by omega) rfl ?_)
      refine hR _ _ ⟨_, rfl, rfl⟩ (hz _ (z_rx S 3) (fun Z2 hz2 => ?_))
      exact s_M_onNo (S := z_rx S 3) h2 (hz2 _ _ rfl (Inv_ref hI (by omega)))
    · rw [h1] at q
      exact absurd q (by decide)
/-- the least weight, from k on, that makes it level -/
def bkF (sum arm : Int32) : Nat → Nat → Int32
  | 0, _ => -9
  | m + 1, k => if sum + nI k * arm = 0 then nI k else bkF sum arm m (k + 1)
set_option maxRecDepth 20000 in
theorem l_X_bucket {d : Nat} {h : List z_C} {Z : z_Zt} {sum arm : Int32} : ∀ m k, k + m = 100 → Z (some (.inl (bkF sum arm m k))) h → z_Run (d + 1) 73 (z_own 7) z_m74.2.1 z_m74.2.2.1 none (fun v h' => z_nar z_m74.2.2.2.1 v ∧ Z v h') 55 [(2, .inl sum), (3, .inl arm), (4, .inl (nI k))] [] h := by
  intro m
  induction m with
  | zero =>
    intro k hk hz
    have hk : k = 100 := by omega
    subst hk
    refine z_Run_of z_tk74 [] 60 (fun C K R hC hK hR => ?_)
    refine And.intro (fun q => ?_) (fun q => absurd (by decide) q)
    exact hR _ _ ⟨⟨_, rfl, rfl⟩, hz⟩
  | succ m ih =>
    intro k hk hz
    refine z_Run_of z_tk74 [(55, [2, 3, 4])] 60 (fun C K R hC hK hR => ?_)
    refine And.intro (fun q => absurd q (show ¬ (99 : Int32) < nI k from nI_nlt (a := 99) (b := k) (by omega) (by omega))) (fun q => ?_)
    refine And.intro (fun e => ?_) (fun e => ?_)
    · rw [bkF, if_neg e] at hz
      have := ih (k + 1) (by omega) hz
      rw [nI_succ] at this
      exact hK _ _ _ _ this
    · rw [bkF, if_pos e] at hz
      exact hR _ _ ⟨⟨_, rfl, rfl⟩, hz⟩
set_option maxRecDepth 20000 in
theorem l_M_bucket {d : Nat} {S D : z_S} {Z : z_Zt} {sum x : Int32} (hD : z_Rl (S.2 61) D) : ∀ m k, k + m = 100 → Z (some (.inl (bkF sum (armF (D.1 2) x) m k))) (z_H S) → z_Run (d + 2) 73 (z_own 8) z_m150.2.1 z_m150.2.2.1 none (fun v h' => z_nar z_m150.2.2.2.1 v ∧ Z v h') 45 [(0, z_p 59), (1, .inl x), (3, .inl sum), (4, .inl (nI k))] [] (z_H S) := by
  intro m
  induction m with
  | zero =>
    intro k hk hz
    have hk : k = 100 := by omega
    subst hk
    refine z_Run_of z_tk150 [] 60 (fun C K R hC hK hR => ?_)
    refine And.intro (fun q => ?_) (fun q => absurd (by decide) q)
    exact hR _ _ ⟨⟨_, rfl, rfl⟩, hz⟩
  | succ m ih =>
    intro k hk hz
    refine z_Run_of z_tk150 [(45, [0, 1, 3, 4])] 60 (fun C K R hC hK hR => ?_)
    refine And.intro (fun q => absurd q (show ¬ (99 : Int32) < nI k from nI_nlt (a := 99) (b := k) (by omega) (by omega))) (fun q => ?_)
    conv => whnf
    refine hC _ _ _ _ (s_M_armN hD ?_)
    refine And.intro (fun e => ?_) (fun e => ?_)
    · rw [bkF, if_neg e] at hz
      have := ih (k + 1) (by omega) hz
      rw [nI_succ] at this
      exact hK _ _ _ _ this
    · rw [bkF, if_pos e] at hz
      exact hR _ _ ⟨⟨_, rfl, rfl⟩, hz⟩
set_option maxRecDepth 20000 in
theorem s_M_bucketOk {d n : Nat} {S D : z_S} {Z : z_Zt} {x : Int32} (hD : z_Rl (S.2 61) D) (hc : D.1 3 = nI n) (hn : n ≤ 5) (hx : sP (D.1 0) x) (hfr : ¬ ∃ i, i < n ∧ D.2 3 i = x) (hz : Z (some (.inl (bkF (sumF (D.1 1) (D.1 2) (D.2 0) (D.2 1) (D.2 3) n) (armF (D.1 2) x) 100 0))) (z_H S)) : z_EvM (d + 4) 73 150 [z_p 59, .inl x] (z_H S) Z := by
  refine z_go (c := 8) (t := z_t150) rfl rfl rfl z_tk150 [(45, [0, 1, 3, 4])] 100 (fun C K R hC hK hR => ?_)
  conv => whnf
  refine hC _ _ _ _ (s_M_isSeatP hD (fun r1 hr1 => ?_))
  refine And.intro (fun _ => ?_) (fun e => absurd hx (zb_f hr1 e))
  conv => whnf
  refine hC _ _ _ _ (s_M_whoP hD hc hn hx.1 (fun r2 hr2 => ?_))
  rcases hr2 with ⟨i, hi, -, -, hfi, -⟩ | ⟨rfl, h0, -⟩
  · exact absurd ⟨i, hi, hfi⟩ hfr
  · refine And.intro (fun _ => ?_) (fun e => absurd h0 e)
    refine And.intro (fun _ => ?_) (fun e => absurd rfl e)
    conv => whnf
    refine hC _ _ _ _ (s_M_sumNow hD hc hn ?_)
    refine hK _ _ _ _ ?_
    exact l_M_bucket (d := d + 2) hD 100 0 (by omega) hz
set_option maxRecDepth 20000 in
theorem s_M_bucketNo {d n : Nat} {S D : z_S} {Z : z_Zt} {x : Int32} (hD : z_Rl (S.2 61) D) (hx : ¬ sP (D.1 0) x) (hz : Z (some (.inl (-1))) (z_H (z_rm2 S 1))) : z_EvM (d + 4) 73 150 [z_p 59, .inl x] (z_H S) Z := by
  refine z_go (c := 8) (t := z_t150) rfl rfl rfl z_tk150 [] 100 (fun C K R hC hK hR => ?_)
  conv => whnf
  refine hC _ _ _ _ (s_M_isSeatP hD (fun r1 hr1 => ?_))
  refine And.intro (fun e => absurd (zb_t hr1 e) hx) (fun _ => ?_)
  refine And.intro (fun e => absurd e (by decide)) (fun _ => ?_)
  conv => whnf
  refine hC _ _ _ _ (s_M_refuse (k := 1) (by omega) rfl ?_)
  exact hR _ _ ⟨_, rfl, rfl⟩ hz
set_option maxRecDepth 20000 in
theorem s_M_bucketSt {d n : Nat} {S D : z_S} {Z : z_Zt} {x : Int32} (hD : z_Rl (S.2 61) D) (hc : D.1 3 = nI n) (hn : n ≤ 5) (hx : sP (D.1 0) x) (hfr : ∃ i, i < n ∧ D.2 3 i = x) (hz : Z (some (.inl (-3))) (z_H (z_rm2 S 3))) : z_EvM (d + 4) 73 150 [z_p 59, .inl x] (z_H S) Z := by
  refine z_go (c := 8) (t := z_t150) rfl rfl rfl z_tk150 [] 100 (fun C K R hC hK hR => ?_)
  conv => whnf
  refine hC _ _ _ _ (s_M_isSeatP hD (fun r1 hr1 => ?_))
  refine And.intro (fun _ => ?_) (fun e => absurd hx (zb_f hr1 e))
  conv => whnf
  refine hC _ _ _ _ (s_M_whoP hD hc hn hx.1 (fun r2 hr2 => ?_))
  rcases hr2 with ⟨i, hi, rfl, h0, hfi, -⟩ | ⟨rfl, h0, hno⟩
  · refine And.intro (fun e => absurd e h0) (fun _ => ?_)
    refine And.intro (fun e => absurd e (by decide)) (fun _ => ?_)
    conv => whnf
    refine hC _ _ _ _ (s_M_refuse (k := 3) (by omega) rfl ?_)
    exact hR _ _ ⟨_, rfl, rfl⟩ hz
  · obtain ⟨i, hi, hfi⟩ := hfr
    exact absurd hfi (hno i hi)
set_option maxRecDepth 20000 in
theorem op_bucket (x : Int32) : z_op 74 150 [.inl x] := by
  intro S hI Z hz
  obtain ⟨n, g, u, t, w, hok, hRl, him, htx, hrw, hrf, hpl⟩ := id hI
  obtain ⟨⟨hn, hc⟩, hg, hu, hL, hO, hN, hf, hwe, hdi, hgu⟩ := id hok
  refine z_go (c := 7) (t := z_t74) rfl rfl rfl z_tk74 [(55, [2, 3, 4])] 100 (fun C K R hC hK hR => ?_)
  conv => whnf
  refine hC _ _ _ _ (s_B0_hasSeatP (fun r1 hr1 => ?_))
  refine And.intro (fun e1 => ?_) (fun e1 => ?_)
  · have hx := zb_t hr1 e1
    conv => whnf
    refine hC _ _ _ _ (s_B0_isTaken hc hn (fun r2 hr2 => ?_))
    refine And.intro (fun e2 => ?_) (fun e2 => ?_)
    · have hfr := zb_f hr2 e2
      conv => whnf
      refine hC _ _ _ _ (s_B0_turned hc hn hf hN ?_)
      conv => whnf
      refine hC _ _ _ _ (s_B0_armOf (fun r3 hr3 => ?_))
      subst hr3
      refine hK _ _ _ _ (l_X_bucket (d := 599) 100 0 (by omega) (hz _ S (fun Z2 hz2 => ?_)))
      exact s_M_bucketOk hRl hc hn hx hfr (hz2 _ S rfl hI)
    · have hfr := zb_t hr2 e2
      conv => whnf
      refine hC _ _ _ _ (s_X_refuse 3 (by omega) rfl ?_)
      refine hR _ _ ⟨_, rfl, rfl⟩ (hz _ (z_rx S 3) (fun Z2 hz2 => ?_))
      exact s_M_bucketSt (S := z_rx S 3) (D := dN S) hRl hc hn hx hfr (hz2 _ _ rfl (Inv_ref hI (by omega)))
  · have hx := zb_f hr1 e1
    conv => whnf
    refine hC _ _ _ _ (s_X_refuse 1 (by omega) rfl ?_)
    refine hR _ _ ⟨_, rfl, rfl⟩ (hz _ (z_rx S 1) (fun Z2 hz2 => ?_))
    exact s_M_bucketNo (n := n) (S := z_rx S 1) (D := dN S) hRl hx (hz2 _ _ rfl (Inv_ref hI (by omega)))
