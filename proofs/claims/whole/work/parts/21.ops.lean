/-! the row; goes and guesses told -/
set_option maxRecDepth 20000 in
theorem s_M_rowOk {d w : Nat} {S : z_S} {Z : z_Zt} {c : Int32} (h0 : 0 ≤ c) (h1 : ¬ 13 < c) (ht : S.1 48 = nI w) (htl : w < 5) (hz : Z (some (.inl (S.1 48 + 1))) (z_H (z_u (z_w S 72 (upd (S.2 72) (S.1 48).toNatClampNeg c)) 48 (S.1 48 + 1)))) : z_EvM (d + 2) 73 181 [z_p 59, .inl c] (z_H S) Z := by
  refine z_go (c := 8) (t := z_t181) rfl rfl rfl z_tk181 [] 100 (fun C K R hC hK hR => ?_)
  conv => whnf
  refine hC _ _ _ _ (s_M_within (fun r2 hr2 => ?_))
  have e' : r2 = 0 := wi_ok hr2 (nlt_le h0) h1
  subst e'
  have ht80 : ¬ S.1 48 = 5 := by
    rw [ht]
    intro z
    have := (nI_eq (a := w) (b := 5) (by omega) (by omega)).mp z
    omega
  refine And.intro (fun e => absurd rfl e) (fun _ => And.intro (fun _ => ?_) (fun e => absurd e ht80))
  refine And.intro (fun _ => ?_) (fun e => absurd rfl e)
  refine And.intro (show vp_in (S.1 48) 5 by rw [ht]; exact vp_in_nI htl (by omega)) ?_
  exact hR _ _ ⟨_, rfl, rfl⟩ hz
set_option maxRecDepth 20000 in
theorem s_M_rowNo {d w : Nat} {S : z_S} {Z : z_Zt} {c : Int32} (hno : 13 < c ∨ w = 5) (h0 : 0 ≤ c) (ht : S.1 48 = nI w) (hz : Z (some (.inl (-6))) (z_H (z_rm2 S 6))) : z_EvM (d + 2) 73 181 [z_p 59, .inl c] (z_H S) Z := by
  refine z_go (c := 8) (t := z_t181) rfl rfl rfl z_tk181 [] 100 (fun C K R hC hK hR => ?_)
  conv => whnf
  refine hC _ _ _ _ (s_M_within (fun r hr => ?_))
  refine And.intro (fun e => ?_) (fun e => ?_)
  · have e' : r = -6 := by
      by_cases q : 13 < c
      · exact wi_hi hr (nlt_le h0) q
      · exact absurd (wi_ok hr (nlt_le h0) q) e
    subst e'
    refine And.intro (fun e => absurd e (by decide)) (fun _ => ?_)
    conv => whnf
    refine hC _ _ _ _ (s_M_refuse (k := 6) (by omega) rfl ?_)
    exact hR _ _ ⟨_, rfl, rfl⟩ hz
  · have hc : ¬ 13 < c := (wi_0 hr e).2
    have h8 : w = 5 := hno.resolve_left hc
    subst h8
    refine And.intro (fun q => absurd ht q) (fun _ => ?_)
    refine And.intro (fun e => absurd e (by decide)) (fun _ => ?_)
    conv => whnf
    refine hC _ _ _ _ (s_M_refuse (k := 6) (by omega) rfl ?_)
    exact hR _ _ ⟨_, rfl, rfl⟩ hz
set_option maxRecDepth 20000 in
theorem s_M_rowLo {d : Nat} {S : z_S} {Z : z_Zt} {c : Int32} (h0 : c < 0) (hz : Z (some (.inl (-4))) (z_H (z_rm2 S 4))) : z_EvM (d + 2) 73 181 [z_p 59, .inl c] (z_H S) Z := by
  refine z_go (c := 8) (t := z_t181) rfl rfl rfl z_tk181 [] 100 (fun C K R hC hK hR => ?_)
  conv => whnf
  refine hC _ _ _ _ (s_M_within (fun r hr => ?_))
  have e' : r = -4 := wi_lo hr h0
  subst e'
  refine And.intro (fun e => ?_) (fun e => absurd e (by decide))
  refine And.intro (fun e => absurd e (by decide)) (fun _ => ?_)
  conv => whnf
  refine hC _ _ _ _ (s_M_refuse (k := 4) (by omega) rfl ?_)
  exact hR _ _ ⟨_, rfl, rfl⟩ hz
set_option maxRecDepth 20000 in
theorem op_row (v : Int32) : z_op 92 181 [.inl v] := by
  intro S hI Z hz
  obtain ⟨n, g, u, t, w, hok, hRl, him, htx, ⟨hw5, hw1, hw2, hw3⟩, hrf, hpl⟩ := id hI
  refine z_go (c := 7) (t := z_t92) rfl rfl rfl z_tk92 [] 100 (fun C K R hC hK hR => ?_)
  refine And.intro (fun q => And.intro (fun q2 => ?_) (fun q2 => And.intro (fun q3 => ?_) (fun q3 => ?_))) (fun q => ?_)
  · conv => whnf
    refine hC _ _ _ _ (s_X_refuse 6 (by omega) rfl ?_)
    refine hR _ _ ⟨_, rfl, rfl⟩ (hz _ (z_rx S 6) (fun Z2 hz2 => ?_))
    exact s_M_rowNo (Or.inl q2) q hw2 (hz2 _ _ rfl (Inv_ref hI (by omega)))
  · have q3 : S.1 37 < 5 := q3
    have hlt : w < 5 := by
      rw [hw1] at q3
      exact (nI_ltI (a := w) (b := 5) (by omega) (by omega)).mp q3
    have hvi : vp_in (nI w) 5 := vp_in_nI hlt (by omega)
    refine And.intro (show vp_in (S.1 37) 5 by rw [hw1]; exact hvi) ?_
    refine hR _ _ ⟨_, rfl, rfl⟩ (hz (S.1 37 + 1) (z_u (z_w S 57 (upd (S.2 57) (S.1 37).toNatClampNeg v)) 37 (S.1 37 + 1)) (fun Z2 hz2 => ?_))
    refine s_M_rowOk q q2 hw2 hlt (hz2 _ _ (show S.1 48 + 1 = S.1 37 + 1 by rw [hw1, hw2]) ⟨n, g, u, t, w + 1, hok, hRl, him, htx, ⟨by omega, ?_, ?_, ?_⟩, hrf, hpl⟩)
    · show S.1 37 + 1 = nI (w + 1)
      rw [hw1, nI_succ]
    · show S.1 48 + 1 = nI (w + 1)
      rw [hw2, nI_succ]
    · intro i hi
      show upd (S.2 57) (S.1 37).toNatClampNeg v i = upd (S.2 72) (S.1 48).toNatClampNeg v i
      rw [hw1, hw2, nI_clamp (by omega)]
      by_cases e2 : i = w
      · subst e2
        rw [pk_us, pk_us]
      · rw [pk_un e2, pk_un e2, hw3 i (by omega)]
  · have q3 : ¬ S.1 37 < 5 := q3
    rw [hw1] at q3
    have : ¬ w < 5 := fun z => q3 (nI_lt (a := w) (b := 5) z (by omega))
    conv => whnf
    refine hC _ _ _ _ (s_X_refuse 6 (by omega) rfl ?_)
    refine hR _ _ ⟨_, rfl, rfl⟩ (hz _ (z_rx S 6) (fun Z2 hz2 => ?_))
    exact s_M_rowNo (Or.inr (by omega)) q hw2 (hz2 _ _ rfl (Inv_ref hI (by omega)))
  · conv => whnf
    refine hC _ _ _ _ (s_X_refuse 4 (by omega) rfl ?_)
    refine hR _ _ ⟨_, rfl, rfl⟩ (hz _ (z_rx S 4) (fun Z2 hz2 => ?_))
    exact s_M_rowLo (lt_nge q) (hz2 _ _ rfl (Inv_ref hI (by omega)))
theorem goix : ∀ g : Fin 10, (26 : Int32) + 4 * nI g.val = nI (26 + 4 * g.val) := by decide +kernel
theorem guix : ∀ g : Fin 8, (66 : Int32) + 3 * nI g.val = nI (66 + 3 * g.val) := by decide +kernel
theorem nI_k (a : Nat) (k : Nat) (x : Int32) (h : x = nI k) : nI a + x = nI (a + k) := by rw [h, nI_add]
/-- the row behind a go more -/
def goS (f : Nat → Int32) (g : Nat) (a b c e : Int32) : Nat → Int32 := upd (upd (upd (upd (upd f (26 + 4 * g) a) (26 + 4 * g + 1) b) (26 + 4 * g + 2) c) (26 + 4 * g + 3) e) 4 (nI (g + 1))
def guS (f : Nat → Int32) (g : Nat) (a b c : Int32) : Nat → Int32 := upd (upd (upd (upd f (66 + 3 * g) a) (66 + 3 * g + 1) b) (66 + 3 * g + 2) c) 5 (nI (g + 1))
theorem goS_Rl {s : Nat → Int32} {D D' : z_S} {g : Nat} {a b c e : Int32} (h : z_Rl s D) (hg : g < 10) (h4 : D'.1 4 = nI (g + 1)) (h1 : ∀ i, i < 6 → ¬ i = 4 → D'.1 i = D.1 i) (r0 : D'.2 4 = upd (D.2 4) g a) (r1 : D'.2 5 = upd (D.2 5) g b) (r2 : D'.2 6 = upd (D.2 6) g c) (r3 : D'.2 7 = upd (D.2 7) g e) (hr : ∀ r, r < 11 → (r < 4 ∨ 7 < r) → D'.2 r = D.2 r) : z_Rl (goS s g a b c e) D' := by
  unfold goS
  refine ⟨fun i hi => ?_, fun k hk j hj => ?_, fun k hk j hj => ?_, fun k hk j hj => ?_⟩
  · by_cases q : i = 4
    · subst q; rw [pk_us, h4]
    · rw [pk_un q, pk_un (by omega), pk_un (by omega), pk_un (by omega), pk_un (by omega), h1 i hi q, h.1 i hi]
  · rw [pk_un (by omega), pk_un (by omega), pk_un (by omega), pk_un (by omega), pk_un (by omega), hr j (by omega) (by omega), h.2.1 k hk j hj]
  · rw [pk_un (by omega)]
    by_cases q : k = g
    · subst q
      rcases j with _ | _ | _ | _ | j
      · rw [pk_un (by omega), pk_un (by omega), pk_un (by omega), Nat.add_zero, pk_us, r0, pk_us]
      · rw [pk_un (by omega), pk_un (by omega), pk_us, r1, pk_us]
      · rw [pk_un (by omega), pk_us, r2, pk_us]
      · rw [pk_us, r3, pk_us]
      · omega
    · rw [pk_un (by omega), pk_un (by omega), pk_un (by omega), pk_un (by omega), h.2.2.1 k hk j hj]
      rcases j with _ | _ | _ | _ | j
      · rw [r0, pk_un q]
      · rw [r1, pk_un q]
      · rw [r2, pk_un q]
      · rw [r3, pk_un q]
      · omega
  · rw [pk_un (by omega), pk_un (by omega), pk_un (by omega), pk_un (by omega), pk_un (by omega), hr (8 + j) (by omega) (by omega), h.2.2.2 k hk j hj]
theorem guS_Rl {s : Nat → Int32} {D D' : z_S} {g : Nat} {a b c : Int32} (h : z_Rl s D) (hg : g < 8) (h4 : D'.1 5 = nI (g + 1)) (h1 : ∀ i, i < 6 → ¬ i = 5 → D'.1 i = D.1 i) (r0 : D'.2 8 = upd (D.2 8) g a) (r1 : D'.2 9 = upd (D.2 9) g b) (r2 : D'.2 10 = upd (D.2 10) g c) (hr : ∀ r, r < 8 → D'.2 r = D.2 r) : z_Rl (guS s g a b c) D' := by
  unfold guS
  refine ⟨fun i hi => ?_, fun k hk j hj => ?_, fun k hk j hj => ?_, fun k hk j hj => ?_⟩
  · by_cases q : i = 5
    · subst q; rw [pk_us, h4]
    · rw [pk_un q, pk_un (by omega), pk_un (by omega), pk_un (by omega), h1 i hi q, h.1 i hi]
  · rw [pk_un (by omega), pk_un (by omega), pk_un (by omega), pk_un (by omega), hr j (by omega), h.2.1 k hk j hj]
  · rw [pk_un (by omega), pk_un (by omega), pk_un (by omega), pk_un (by omega), hr (4 + j) (by omega), h.2.2.1 k hk j hj]
  · rw [pk_un (by omega)]
    by_cases q : k = g
    · subst q
      rcases j with _ | _ | _ | j
      · rw [pk_un (by omega), pk_un (by omega), Nat.add_zero, pk_us, r0, pk_us]
      · rw [pk_un (by omega), pk_us, r1, pk_us]
      · rw [pk_us, r2, pk_us]
      · omega
    · rw [pk_un (by omega), pk_un (by omega), pk_un (by omega), h.2.2.2 k hk j hj]
      rcases j with _ | _ | _ | j
      · rw [r0, pk_un q]
      · rw [r1, pk_un q]
      · rw [r2, pk_un q]
      · omega
theorem z_Hw {S : z_S} {p : Nat} {f f' : Nat → Int32} (h : f = f') : z_H (z_w S p f) = z_H (z_w S p f') := by rw [h]
set_option maxRecDepth 20000 in
theorem s_M_guessedOk {d u : Nat} {S : z_S} {Z : z_Zt} {l r t : Int32} (hl : digP l) (hr' : digP r) (ht : isN t 3) (hu : S.2 61 5 = nI u) (hu8 : u < 8) (hz : Z (some (.inl (nI (u + 1)))) (z_H (z_w S 61 (guS (S.2 61) u l r t)))) : z_EvM (d + 2) 73 178 [z_p 59, .inl l, .inl r, .inl t] (z_H S) Z := by
  have ei : (66 : Int32) + 3 * S.2 61 5 = nI (66 + 3 * u) := by rw [hu]; exact guix ⟨u, hu8⟩
  have e1 : nI (66 + 3 * u) + 1 = nI (66 + 3 * u + 1) := nI_k _ 1 1 rfl
  have e2 : nI (66 + 3 * u) + 2 = nI (66 + 3 * u + 2) := nI_k _ 2 2 rfl
  have h8 : ¬ S.2 61 5 = 8 := by
    rw [hu]
    intro z
    have := (nI_eq (a := u) (b := 8) (by omega) (by omega)).mp z
    omega
  refine z_go (c := 8) (t := z_t178) rfl rfl rfl z_tk178 [] 100 (fun C K R hC hK hR => ?_)
  conv => whnf
  refine hC _ _ _ _ (s_M_areDigitsP (fun r1 hr1 => ?_))
  refine And.intro (fun e => absurd hl (zb_f hr1 e)) (fun _ => ?_)
  conv => whnf
  refine hC _ _ _ _ (s_M_areDigitsP (fun r2 hr2 => ?_))
  refine And.intro (fun e => absurd hr' (zb_f hr2 e)) (fun _ => ?_)
  conv => whnf
  refine hC _ _ _ _ (s_M_isInP 3 (by omega) rfl (fun r3 hr3 => ?_))
  refine And.intro (fun _ => ?_) (fun e => absurd ht (zb_f hr3 e))
  refine And.intro (vp_in_iff.mpr (by decide)) ?_
  refine And.intro (fun _ => ?_) (fun e => absurd e h8)
  refine And.intro (fun _ => ?_) (fun e => absurd rfl e)
  refine And.intro (vp_in_iff.mpr (by decide)) ?_
  refine And.intro (show vp_in (66 + 3 * S.2 61 5) 90 by rw [ei]; exact vp_in_nI (by omega) (by omega)) ?_
  refine And.intro (show vp_in (66 + 3 * S.2 61 5 + 1) 90 by rw [ei, e1]; exact vp_in_nI (by omega) (by omega)) ?_
  refine And.intro (show vp_in (66 + 3 * S.2 61 5 + 2) 90 by rw [ei, e2]; exact vp_in_nI (by omega) (by omega)) ?_
  refine And.intro (vp_in_iff.mpr (by decide)) ?_
  refine And.intro (vp_in_iff.mpr (by decide)) ?_
  refine And.intro (vp_in_iff.mpr (by decide)) ?_
  have key : ∀ f : Nat → Int32, f = upd (upd (upd (S.2 61) (66 + 3 * S.2 61 5).toNatClampNeg l) (66 + 3 * S.2 61 5 + 1).toNatClampNeg r) (66 + 3 * S.2 61 5 + 2).toNatClampNeg t → upd f 5 (f 5 + 1) 5 = nI (u + 1) ∧ upd f 5 (f 5 + 1) = guS (S.2 61) u l r t := by
    intro f hf
    rw [ei, e1, e2, nI_clamp (by omega), nI_clamp (by omega), nI_clamp (by omega)] at hf
    have h5 : f 5 = nI u := by rw [hf, pk_un (by omega), pk_un (by omega), pk_un (by omega), hu]
    have h6 : f 5 + 1 = nI (u + 1) := by rw [h5, nI_succ]
    rw [pk_us, h6, hf]
    exact ⟨rfl, rfl⟩
  obtain ⟨k1, k2⟩ := key _ rfl
  have hz3 := hz
  rw [← k1, ← z_Hw k2] at hz3
  exact hR _ _ ⟨_, rfl, rfl⟩ hz3
set_option maxRecDepth 20000 in
theorem s_M_guessedNo {d u : Nat} {S : z_S} {Z : z_Zt} {l r t : Int32} (hno : ¬ (digP l ∧ digP r ∧ isN t 3)) (hz : Z (some (.inl (-2))) (z_H (z_rm2 S 2))) : z_EvM (d + 2) 73 178 [z_p 59, .inl l, .inl r, .inl t] (z_H S) Z := by
  refine z_go (c := 8) (t := z_t178) rfl rfl rfl z_tk178 [] 100 (fun C K R hC hK hR => ?_)
  conv => whnf
  refine hC _ _ _ _ (s_M_areDigitsP (fun r1 hr1 => ?_))
  refine And.intro (fun e => ?_) (fun e1 => ?_)
  · refine And.intro (fun e => absurd e (by decide)) (fun _ => ?_)
    conv => whnf
    refine hC _ _ _ _ (s_M_refuse (k := 2) (by omega) rfl ?_)
    exact hR _ _ ⟨_, rfl, rfl⟩ hz
  · conv => whnf
    refine hC _ _ _ _ (s_M_areDigitsP (fun r2 hr2 => ?_))
    refine And.intro (fun e => ?_) (fun e2 => ?_)
    · refine And.intro (fun e => absurd e (by decide)) (fun _ => ?_)
      conv => whnf
      refine hC _ _ _ _ (s_M_refuse (k := 2) (by omega) rfl ?_)
      exact hR _ _ ⟨_, rfl, rfl⟩ hz
    · conv => whnf
      refine hC _ _ _ _ (s_M_isInP 3 (by omega) rfl (fun r3 hr3 => ?_))
      refine And.intro (fun e => absurd ⟨zb_t hr1 e1, zb_t hr2 e2, zb_t hr3 e⟩ hno) (fun e => ?_)
      refine And.intro (fun e => absurd e (by decide)) (fun _ => ?_)
      conv => whnf
      refine hC _ _ _ _ (s_M_refuse (k := 2) (by omega) rfl ?_)
      exact hR _ _ ⟨_, rfl, rfl⟩ hz
set_option maxRecDepth 20000 in
theorem s_M_guessedFull {d : Nat} {S : z_S} {Z : z_Zt} {l r t : Int32} (hl : digP l) (hr' : digP r) (ht : isN t 3) (hu : S.2 61 5 = 8) (hz : Z (some (.inl (-6))) (z_H (z_rm2 S 6))) : z_EvM (d + 2) 73 178 [z_p 59, .inl l, .inl r, .inl t] (z_H S) Z := by
  refine z_go (c := 8) (t := z_t178) rfl rfl rfl z_tk178 [] 100 (fun C K R hC hK hR => ?_)
  conv => whnf
  refine hC _ _ _ _ (s_M_areDigitsP (fun r1 hr1 => ?_))
  refine And.intro (fun e => absurd hl (zb_f hr1 e)) (fun _ => ?_)
  conv => whnf
  refine hC _ _ _ _ (s_M_areDigitsP (fun r2 hr2 => ?_))
  refine And.intro (fun e => absurd hr' (zb_f hr2 e)) (fun _ => ?_)
  conv => whnf
  refine hC _ _ _ _ (s_M_isInP 3 (by omega) rfl (fun r3 hr3 => ?_))
  refine And.intro (fun _ => ?_) (fun e => absurd ht (zb_f hr3 e))
  refine And.intro (vp_in_iff.mpr (by decide)) ?_
  refine And.intro (fun e => absurd hu e) (fun _ => ?_)
  refine And.intro (fun e => absurd e (by decide)) (fun _ => ?_)
  conv => whnf
  refine hC _ _ _ _ (s_M_refuse (k := 6) (by omega) rfl ?_)
  exact hR _ _ ⟨_, rfl, rfl⟩ hz
set_option maxRecDepth 20000 in
theorem s_U_isFull {d u : Nat} {S : z_S} {Z : z_Zt} (hu : S.1 20 = nI u) (hu8 : u ≤ 8) (hz : ∀ r : Int32, z_b r (u = 8) → Z (some (.inl r)) (z_H S)) : z_EvM (d + 1) 73 36 [z_p 33] (z_H S) Z := by
  refine z_go (c := 2) (t := z_t36) rfl rfl rfl z_tk36 [] 100 (fun C K R hC hK hR => ?_)
  refine And.intro (fun q => ?_) (fun q => ?_)
  · have q : S.1 20 < 8 := q
    rw [hu] at q
    have := (nI_ltI (a := u) (b := 8) (by omega) (by omega)).mp q
    exact hR _ _ ⟨_, rfl, rfl⟩ (hz _ (Or.inr ⟨rfl, by omega⟩))
  · have q : ¬ S.1 20 < 8 := q
    rw [hu] at q
    have h2 : ¬ u < 8 := fun z => q (nI_lt (a := u) (b := 8) z (by omega))
    exact hR _ _ ⟨_, rfl, rfl⟩ (hz _ (Or.inl ⟨rfl, by omega⟩))
def guX (S : z_S) (l r t : Int32) : z_S := z_u (z_w (z_w (z_w S 34 (upd (S.2 34) (S.1 20).toNatClampNeg l)) 35 (upd (S.2 35) (S.1 20).toNatClampNeg r)) 36 (upd (S.2 36) (S.1 20).toNatClampNeg t)) 20 (S.1 20 + 1)
set_option maxRecDepth 20000 in
theorem s_U_add {d u : Nat} {S : z_S} {Z : z_Zt} {l r t : Int32} (hu : S.1 20 = nI u) (hu8 : u < 8) (hz : Z none (z_H (guX S l r t))) : z_EvM (d + 2) 73 37 [z_p 33, .inl l, .inl r, .inl t] (z_H S) Z := by
  have hv : vp_in (S.1 20) 8 := by rw [hu]; exact vp_in_nI hu8 (by omega)
  refine z_go (c := 2) (t := z_t37) rfl rfl rfl z_tk37 [] 100 (fun C K R hC hK hR => ?_)
  conv => whnf
  refine hC _ _ _ _ (s_U_isFull hu (by omega) (fun r hr => ?_))
  refine And.intro (fun e => absurd (zb_t hr e) (by omega)) (fun e => ?_)
  refine And.intro hv (And.intro hv (And.intro hv ?_))
  exact hR _ _ rfl hz
set_option maxRecDepth 20000 in
theorem op_guessed (l r t : Int32) : z_op 89 178 [.inl l, .inl r, .inl t] := by
  intro S hI Z hz
  obtain ⟨n, g, u, tt, w, hok, hRl, him, htx, hrw, hrf, hpl⟩ := id hI
  obtain ⟨hn, hg, ⟨hu8, hu⟩, hL, hO, hN, hf, hwe, hdi, hgu⟩ := id hok
  have hu : S.1 20 = nI u := hu
  have hs5 : S.2 61 5 = nI u := (hRl.1 5 (by omega)).trans hu
  refine z_go (c := 7) (t := z_t89) rfl rfl rfl z_tk89 [] 100 (fun C K R hC hK hR => ?_)
  conv => whnf
  refine hC _ _ _ _ (s_X_isWeightAndFeetP (fun r1 hr1 => ?_))
  refine And.intro (fun e1 => ?_) (fun e1 => ?_)
  · conv => whnf
    refine hC _ _ _ _ (s_X_refuse 2 (by omega) rfl ?_)
    refine hR _ _ ⟨_, rfl, rfl⟩ (hz _ (z_rx S 2) (fun Z2 hz2 => ?_))
    exact s_M_guessedNo (u := u) (fun z => zb_f hr1 e1 z.1) (hz2 _ _ rfl (Inv_ref hI (by omega)))
  · conv => whnf
    refine hC _ _ _ _ (s_X_isWeightAndFeetP (fun r2 hr2 => ?_))
    refine And.intro (fun e2 => ?_) (fun e2 => ?_)
    · conv => whnf
      refine hC _ _ _ _ (s_X_refuse 2 (by omega) rfl ?_)
      refine hR _ _ ⟨_, rfl, rfl⟩ (hz _ (z_rx S 2) (fun Z2 hz2 => ?_))
      exact s_M_guessedNo (u := u) (fun z => zb_f hr2 e2 z.2.1) (hz2 _ _ rfl (Inv_ref hI (by omega)))
    · conv => whnf
      refine hC _ _ _ _ (s_X_isSideP (fun r3 hr3 => ?_))
      refine And.intro (fun e3 => ?_) (fun e3 => ?_)
      · have hl := zb_t hr1 e1
        have hr := zb_t hr2 e2
        have ht := zb_t hr3 e3
        conv => whnf
        refine hC _ _ _ _ (s_U_isFull hu hu8 (fun r4 hr4 => ?_))
        refine And.intro (fun e4 => ?_) (fun e4 => ?_)
        · have hlt : u < 8 := by have := zb_f hr4 e4; omega
          conv => whnf
          refine hC _ _ _ _ (s_U_add hu hlt ?_)
          refine hR _ _ ⟨_, rfl, rfl⟩ (hz (S.1 20 + 1) (guX S l r t) (fun Z2 hz2 => ?_))
          refine s_M_guessedOk hl hr ht hs5 hlt (hz2 _ _ (show nI (u + 1) = S.1 20 + 1 by rw [hu, nI_succ]) ⟨n, g, u + 1, tt, w, ⟨hn, hg, ⟨by omega, ?_⟩, hL, hO, hN, hf, hwe, hdi, ?_⟩, ?_, him, htx, hrw, hrf, hpl⟩)
          · show S.1 20 + 1 = nI (u + 1)
            rw [hu, nI_succ]
          · intro i hi
            show (11 ≤ upd (S.2 34) (S.1 20).toNatClampNeg l i ∧ upd (S.2 34) (S.1 20).toNatClampNeg l i ≤ 99) ∧ (11 ≤ upd (S.2 35) (S.1 20).toNatClampNeg r i ∧ upd (S.2 35) (S.1 20).toNatClampNeg r i ≤ 99)
            rw [hu, nI_clamp (by omega)]
            by_cases e : i = u
            · subst e
              rw [pk_us, pk_us]
              exact ⟨⟨hl.1, hl.2.1⟩, ⟨hr.1, hr.2.1⟩⟩
            · rw [pk_un e, pk_un e]
              exact hgu i (by omega)
          · have hcl : (S.1 20).toNatClampNeg = u := by rw [hu]; exact nI_clamp (by omega)
            refine guS_Rl hRl hlt ?_ (fun i hi hne => by rcases i with _ | _ | _ | _ | _ | _ | i <;> first | rfl | omega) ?_ ?_ ?_ (fun r hr => by rcases r with _ | _ | _ | _ | _ | _ | _ | _ | r <;> first | rfl | omega)
            · show S.1 20 + 1 = nI (u + 1)
              rw [hu, nI_succ]
            · show upd (S.2 34) (S.1 20).toNatClampNeg l = upd (S.2 34) u l
              rw [hcl]
            · show upd (S.2 35) (S.1 20).toNatClampNeg r = upd (S.2 35) u r
              rw [hcl]
            · show upd (S.2 36) (S.1 20).toNatClampNeg t = upd (S.2 36) u t
              rw [hcl]
        · have h8 := zb_t hr4 e4
          conv => whnf
          refine hC _ _ _ _ (s_X_refuse 6 (by omega) rfl ?_)
          refine hR _ _ ⟨_, rfl, rfl⟩ (hz _ (z_rx S 6) (fun Z2 hz2 => ?_))
          refine s_M_guessedFull hl hr ht ?_ (hz2 _ _ rfl (Inv_ref hI (by omega)))
          show S.2 61 5 = 8
          rw [hs5, h8]
          rfl
      · conv => whnf
        refine hC _ _ _ _ (s_X_refuse 2 (by omega) rfl ?_)
        refine hR _ _ ⟨_, rfl, rfl⟩ (hz _ (z_rx S 2) (fun Z2 hz2 => ?_))
        exact s_M_guessedNo (u := u) (fun z => zb_f hr3 e3 z.2.2) (hz2 _ _ rfl (Inv_ref hI (by omega)))
