/-! seeds -/
def drI (L : Nat) (z : Int32) : Int32 := (z &&& 2147483647) / 256 - (z &&& 2147483647) / 256 / (2 * nI L) * (2 * nI L)
theorem drI_ex {L : Nat} (h1 : 1 ≤ L) (h6 : L ≤ 6) (z : Int32) : ∃ s, s < 2 * L ∧ drI L z = nI s := by
  obtain ⟨j, hj, e⟩ := pk_andE z (m := 2147483647) 31 (by decide)
  unfold drI
  rw [e, twoL, show (256 : Int32) = nI 256 from rfl, pk_div hj (by omega) (by omega), pk_rem (by omega) (by omega) (by omega)]
  exact ⟨_, Nat.mod_lt _ (by omega), rfl⟩
def drS (L : Nat) (z : Int32) : Int32 := if drI L z < nI L then drI L z - nI L else drI L z - nI L + 1
theorem drS_in {L : Nat} (h1 : 1 ≤ L) (h6 : L ≤ 6) (z : Int32) : -6 ≤ drS L z ∧ drS L z ≤ 6 ∧ ¬ drS L z = 0 := by
  obtain ⟨s, hs, e⟩ := drI_ex h1 h6 z
  unfold drS
  rw [e, seat_eq h6 (by omega)]
  exact sv_in h6 hs
abbrev z_PF : Type := (Nat → Int32) × Int32
def drG (nx : Int32 → Int32) (L n i : Nat) (fe : Nat → Int32) (z : Int32) : Nat → Int32 := if usedF n fe (drS L (nx z)) = true then fe else upd fe i (drS L (nx z))
def drF (nx : Int32 → Int32) (L n : Nat) : Nat → Nat → (Nat → Int32) → Int32 → z_PF
  | 0, _, fe, z => (fe, z)
  | m + 1, i, fe, z => drF nx L n m (i + 1) (drG nx L n i fe z) (nx z)
theorem used_cg {n : Nat} {f f' : Nat → Int32} {x : Int32} (h : ∀ i, i < n → f i = f' i) : (∃ i, i < n ∧ f i = x) ↔ usedF n f' x = true := by
  rw [used_iff]
  constructor
  · intro ⟨i, hi, e⟩
    exact ⟨i, hi, by rw [← h i hi]; exact e⟩
  · intro ⟨i, hi, e⟩
    exact ⟨i, hi, by rw [h i hi]; exact e⟩
theorem drG_fe {nx : Int32 → Int32} {L n i : Nat} {fe : Nat → Int32} {z : Int32} (h1 : 1 ≤ L) (h6 : L ≤ 6) (h : z_fe n fe) : z_fe n (drG nx L n i fe z) := by
  unfold drG
  have := drS_in h1 h6 (nx z)
  split
  · exact h
  · exact fe_upd h this.1 this.2.1
theorem drF_fe {nx : Int32 → Int32} {L n : Nat} (h1 : 1 ≤ L) (h6 : L ≤ 6) : ∀ m i fe z, z_fe n fe → z_fe n (drF nx L n m i fe z).1 := by
  intro m
  induction m with
  | zero => intro i fe z h; exact h
  | succ m ih =>
    intro i fe z h
    rw [drF]
    exact ih _ _ _ (drG_fe h1 h6 h)
theorem sum_cg {own notch : Int32} {ki we fe ki' we' fe' : Nat → Int32} : ∀ n, (∀ i, i < n → ki i = ki' i ∧ we i = we' i ∧ fe i = fe' i) → sumF own notch ki we fe n = sumF own notch ki' we' fe' n := by
  intro n
  induction n with
  | zero => intro _; rfl
  | succ n ih =>
    intro h
    obtain ⟨a, b, c⟩ := h n (by omega)
    rw [sumF, sumF, ih (fun i hi => h i (by omega)), a, b, c]
set_option maxRecDepth 20000 in
theorem s_B_drawn {d nh L : Nat} {h : List z_C} {Z : z_Zt} {z x : Int32} (h1 : 1 ≤ L) (h6 : L ≤ 6) (hx : x = nI (2 * L)) (hz : Z (some (.inl (drI L z))) h) : z_EvM (d + 1) nh 18 [.inl z, .inl x] h Z := by
  have hn0 : ¬ x = 0 := by rw [hx]; exact nI_ne0 (by omega) (by omega)
  have h1' : ¬ x < 1 := by rw [hx]; exact nI_nlt (a := 2 * L) (b := 1) (by omega) (by omega)
  unfold drI at hz
  rw [twoL, ← hx] at hz
  refine z_go (c := 0) (t := z_t18) rfl rfl rfl z_tk18 [] 100 (fun C K R hC hK hR => ?_)
  refine And.intro (fun q => ?_) (fun q => absurd (nlt_ge h1') q)
  refine And.intro (by decide) ?_
  refine And.intro hn0 ?_
  exact hR _ _ ⟨_, rfl, rfl⟩ hz
section
variable {d n L : Nat} {S : z_S} {Z : z_Zt} {nx : Int32 → Int32}
set_option maxRecDepth 20000 in
theorem l_B1_draw0 (hc : S.1 7 = nI n) (hn : n ≤ 5) {z : Int32} (next : ∀ f : Nat → Int32, (∀ i, i < n → f i = 0) → z_Run (d + 3) 73 (z_own 0) z_m17.2.1 z_m17.2.2.1 none (fun v h' => z_nar z_m17.2.2.2.1 v ∧ Z v h') 25 [(0, z_p 9), (2, .inl z)] [] (z_H (z_w S 13 f))) : ∀ m k f, k + m = n → (∀ i, i < k → f i = 0) → z_Run (d + 3) 73 (z_own 0) z_m17.2.1 z_m17.2.2.1 none (fun v h' => z_nar z_m17.2.2.2.1 v ∧ Z v h') 4 [(0, z_p 9), (2, .inl z), (3, .inl (nI k))] [] (z_H (z_w S 13 f)) := by
  intro m
  induction m with
  | zero =>
    intro k f hk hf
    have hk : k = n := by omega
    subst hk
    refine z_Run_of z_tk17 [(25, [0, 2])] 60 (fun C K R hC hK hR => ?_)
    refine And.intro (fun q => ?_) (fun q => absurd (show S.1 7 ≤ nI k by rw [hc]; exact nI_le (by omega) (by omega)) q)
    exact hK _ _ _ _ (next f hf)
  | succ m ih =>
    intro k f hk hf
    have hcl : (nI k).toNatClampNeg = k := nI_clamp (by omega)
    have hin : vp_in (nI k) 5 := vp_in_nI (by omega) (by omega)
    refine z_Run_of z_tk17 [(4, [0, 2, 3])] 60 (fun C K R hC hK hR => ?_)
    refine And.intro (fun q => absurd (show S.1 7 ≤ nI k from q) (by rw [hc]; exact nI_ge (by omega) (by omega))) (fun q => ?_)
    refine And.intro hin ?_
    have := ih (k + 1) (upd f (nI k).toNatClampNeg 0) (by omega) (fun i hi => by
      rw [hcl]
      by_cases e : i = k
      · subst e; exact pk_us
      · rw [pk_un e]; exact hf i (by omega))
    rw [nI_succ] at this
    exact hK _ _ _ _ this
set_option maxRecDepth 20000 in
theorem l_B1_draw (hnx : ∀ z, nx z = z * 1664525 + 1013904223) (hc : S.1 7 = nI n) (hn : n ≤ 5) (hL : S.1 4 = nI L) (h1 : 1 ≤ L) (h6 : L ≤ 6) : ∀ m k (fe : Nat → Int32) (z : Int32) f, k + m = n → (∀ i, i < n → f i = fe i) → (∀ f', (∀ i, i < n → f' i = (drF nx L n m k fe z).1 i) → Z (some (.inl (drF nx L n m k fe z).2)) (z_H (z_w S 13 f'))) → z_Run (d + 3) 73 (z_own 0) z_m17.2.1 z_m17.2.2.1 none (fun v h' => z_nar z_m17.2.2.2.1 v ∧ Z v h') 27 [(0, z_p 9), (2, .inl z), (3, .inl (nI k))] [] (z_H (z_w S 13 f)) := by
  intro m
  induction m with
  | zero =>
    intro k fe z f hk hf hz
    have hk : k = n := by omega
    subst hk
    refine z_Run_of z_tk17 [] 60 (fun C K R hC hK hR => ?_)
    refine And.intro (fun q => ?_) (fun q => absurd (show S.1 7 ≤ nI k by rw [hc]; exact nI_le (by omega) (by omega)) q)
    exact hR _ _ ⟨⟨_, rfl, rfl⟩, hz f hf⟩
  | succ m ih =>
    intro k fe z f hk hf hz
    have hcl : (nI k).toNatClampNeg = k := nI_clamp (by omega)
    have hin : vp_in (nI k) 5 := vp_in_nI (by omega) (by omega)
    have hsi := drS_in h1 h6 (nx z)
    have tail : z_Run (d + 3) 73 (z_own 0) z_m17.2.1 z_m17.2.2.1 none (fun v h' => z_nar z_m17.2.2.2.1 v ∧ Z v h') 43 [(0, z_p 9), (2, .inl (nx z)), (3, .inl (nI k))] [] (z_H (z_w S 13 f)) := by
      refine z_Run_of z_tk17 [(27, [0, 2, 3])] 60 (fun C K R hC hK hR => ?_)
      conv => whnf
      refine hC _ _ _ _ (s_B1_seatsMany (S := z_w S 13 f) (fun r1 hr1 => ?_))
      have hr1 : r1 = nI (2 * L) := by rw [hr1]; show 2 * S.1 4 = _; rw [hL, twoL]
      conv => whnf
      refine hC _ _ _ _ (s_B_drawn (h := z_H (z_w S 13 f)) h1 h6 hr1 ?_)
      conv => whnf
      refine hC _ _ _ _ (s_B1_seatFromLeft (S := z_w S 13 f) (fun r2 hr2 => ?_))
      have hr2 : r2 = drS L (nx z) := by
        rw [hr2]
        show (if drI L (nx z) < S.1 4 then drI L (nx z) - S.1 4 else drI L (nx z) - S.1 4 + 1) = _
        rw [hL]
        rfl
      subst hr2
      conv => whnf
      refine hC _ _ _ _ (s_B1_isTaken (S := z_w S 13 f) hc hn (fun r3 hr3 => ?_))
      have hr3 : z_b r3 (usedF n fe (drS L (nx z)) = true) := zb_iff hr3 (used_cg hf)
      refine And.intro (fun e => ?_) (fun e => ?_)
      · have hu := zb_t hr3 e
        have := ih (k + 1) fe (nx z) f (by omega) hf (fun f' hf' => by
          have := hz f'
          rw [drF, drG, if_pos hu] at this
          exact this hf')
        rw [nI_succ] at this
        exact hK _ _ _ _ this
      · have hu := zb_f hr3 e
        refine And.intro hin ?_
        have := ih (k + 1) (upd fe k (drS L (nx z))) (nx z) (upd f (nI k).toNatClampNeg (drS L (nx z))) (by omega) (fun i hi => by
          rw [hcl]
          show _ = upd fe k (drS L (nx z)) i
          by_cases e2 : i = k
          · subst e2; rw [pk_us, pk_us]
          · rw [pk_un e2, pk_un e2]; exact hf i hi) (fun f' hf' => by
          have := hz f'
          rw [drF, drG, if_neg hu] at this
          exact this hf')
        rw [nI_succ] at this
        exact hK _ _ _ _ this
    rw [hnx] at tail
    refine z_Run_of z_tk17 [(43, [0, 2, 3])] 60 (fun C K R hC hK hR => ?_)
    refine And.intro (fun q => absurd (show S.1 7 ≤ nI k from q) (by rw [hc]; exact nI_ge (by omega) (by omega))) (fun q => ?_)
    exact hK _ _ _ _ tail
set_option maxRecDepth 20000 in
theorem s_B1_sitByDraws {z : Int32} {f : Nat → Int32} (hnx : ∀ z, nx z = z * 1664525 + 1013904223) (hc : S.1 7 = nI n) (hn : n ≤ 5) (hL : S.1 4 = nI L) (h1 : 1 ≤ L) (h6 : L ≤ 6) (hz : ∀ f', (∀ i, i < n → f' i = (drF nx L n n 0 (fun _ => 0) z).1 i) → Z (some (.inl (drF nx L n n 0 (fun _ => 0) z).2)) (z_H (z_w S 13 f'))) : z_EvM (d + 3) 73 17 [z_p 9, .inl z] (z_H (z_w S 13 f)) Z := by
  refine z_go (c := 0) (t := z_t17) rfl rfl rfl z_tk17 [(4, [0, 2, 3])] 60 (fun C K R hC hK hR => ?_)
  refine hK _ _ _ _ (l_B1_draw0 (d := d) (S := S) hc hn (fun f2 hf2 => ?_) n 0 f (by omega) (fun i hi => by omega))
  refine z_Run_of z_tk17 [(27, [0, 2, 3])] 60 (fun C K R hC hK hR => ?_)
  have := l_B1_draw (d := d) (S := S) (Z := Z) hnx hc hn hL h1 h6 n 0 (fun _ => 0) z f2 (by omega) hf2 hz
  exact hK _ _ _ _ this
end
/-- how often -/
def seF (nx : Int32 → Int32) (D : z_S) (L n : Nat) (wanted : Int32) : Nat → Int32 → Int32 → Int32
  | 0, _, c => c
  | m + 1, z, c => seF nx D L n wanted m (drF nx L n n 0 (fun _ => 0) z).2 (if sideF (sumF (D.1 1) (D.1 2) (D.2 0) (D.2 1) (drF nx L n n 0 (fun _ => 0) z).1 n) = wanted then c + 1 else c)
theorem fe0 (n : Nat) : z_fe n (fun _ => 0) := fun k hk => (show (-6 : Int32) ≤ 0 ∧ (0 : Int32) ≤ 6 by decide)
set_option maxRecDepth 20000 in
theorem l_X_seeds {d n L N : Nat} {S D : z_S} {Z : z_Zt} {wanted zz what : Int32} {nx : Int32 → Int32} (hnx : ∀ z, nx z = z * 1664525 + 1013904223) (hc : S.1 7 = nI n) (hn : n ≤ 5) (hL : S.1 4 = nI L) (h1 : 1 ≤ L) (h6 : L ≤ 6) (hv : 0 ≤ S.1 6 ∧ S.1 6 ≤ 4) (ho : D.1 1 = S.1 5) (hno : D.1 2 = S.1 6) (hkw : ∀ i, i < n → S.2 10 i = D.2 0 i ∧ S.2 11 i = D.2 1 i) (hN : N ≤ 20) : ∀ m k z c f, k + m = N → (∀ f', Z (some (.inl (seF nx D L n wanted m z c))) (z_H (z_w S 13 f'))) → z_Run (d + 6) 73 (z_own 7) z_m91.2.1 z_m91.2.2.1 none (fun v h' => z_nar z_m91.2.2.2.1 v ∧ Z v h') 72 [(0, z_p 0), (1, .inl (nI N)), (2, .inl zz), (3, .inl what), (4, .inl wanted), (5, .inl c), (6, .inl z), (7, .inl (nI k))] [] (z_H (z_w S 13 f)) := by
  intro m
  induction m with
  | zero =>
    intro k z c f hk hz
    have hk : k = N := by omega
    subst hk
    refine z_Run_of z_tk91 [] 60 (fun C K R hC hK hR => ?_)
    refine And.intro (fun q => ?_) (fun q => absurd (nI_le (Nat.le_refl k) (by omega)) q)
    exact hR _ _ ⟨⟨_, rfl, rfl⟩, hz f⟩
  | succ m ih =>
    intro k z c f hk hz
    refine z_Run_of z_tk91 [(72, [0, 1, 2, 3, 4, 5, 6, 7])] 60 (fun C K R hC hK hR => ?_)
    refine And.intro (fun q => absurd q (nI_ge (by omega) (by omega))) (fun q => ?_)
    conv => whnf
    refine hC _ _ _ _ (s_B1_sitByDraws hnx hc hn hL h1 h6 (fun f' hf' => ?_))
    have hfe : z_fe n f' := fun i hi => by
      rw [hf' i hi]
      exact drF_fe h1 h6 n 0 (fun _ => 0) z (fe0 n) i hi
    conv => whnf
    refine hC _ _ _ _ (s_B1_turned (S := z_w S 13 f') hc hn hfe hv ?_)
    have es : sumF ((z_w S 13 f').1 5) ((z_w S 13 f').1 6) ((z_w S 13 f').2 10) ((z_w S 13 f').2 11) ((z_w S 13 f').2 13) n = sumF (D.1 1) (D.1 2) (D.2 0) (D.2 1) (drF nx L n n 0 (fun _ => 0) z).1 n := by
      rw [ho, hno]
      exact sum_cg n (fun i hi => ⟨(hkw i hi).1, (hkw i hi).2, hf' i hi⟩)
    conv => whnf
    refine hC _ _ _ _ (s_X_sideOf (h := z_H (z_w S 13 f')) (fun r hr => ?_))
    have hr : r = sideF (sumF (D.1 1) (D.1 2) (D.2 0) (D.2 1) (drF nx L n n 0 (fun _ => 0) z).1 n) := by
      rw [hr, es]
    refine And.intro (fun e => ?_) (fun e => ?_)
    · have e : ¬ r = wanted := e
      rw [hr] at e
      have := ih (k + 1) (drF nx L n n 0 (fun _ => 0) z).2 c f' (by omega) (fun f2 => by
        have := hz f2
        rw [seF, if_neg e] at this
        exact this)
      rw [nI_succ] at this
      exact hK _ _ _ _ this
    · have e : r = wanted := e
      rw [hr] at e
      have := ih (k + 1) (drF nx L n n 0 (fun _ => 0) z).2 (c + 1) f' (by omega) (fun f2 => by
        have := hz f2
        rw [seF, if_pos e] at this
        exact this)
      rw [nI_succ] at this
      exact hK _ _ _ _ this
/-! the reference's -/
def dF (D : z_S) (fe : Nat → Int32) : z_S := (D.1, fun r => if r = 3 then fe else D.2 r)
theorem dF_up {s : Nat → Int32} {D : z_S} {fe : Nat → Int32} {k : Nat} (h : z_Rl s (dF D fe)) (hk : k < 5) (x : Int32) : z_Rl (upd s (6 + 4 * k + 3) x) (dF D (upd fe k x)) :=
  Rl_kid h k 3 hk (by omega) x rfl (fun i hi => rfl) (fun r hr hne => (if_neg hne).trans (if_neg hne).symm)
theorem dF_id {s : Nat → Int32} {D : z_S} (h : z_Rl s D) : z_Rl s (dF D (D.2 3)) := by
  refine dq_Rl h (fun i _ => rfl) ⟨fun i hi => rfl, fun r hr k hk => ?_, fun r hr k hk => ?_, fun r hr k hk => ?_⟩
  · show (if r = 3 then D.2 3 else D.2 r) k = D.2 r k
    by_cases e : r = 3
    · rw [if_pos e, e]
    · rw [if_neg e]
  · show (if 4 + r = 3 then D.2 3 else D.2 (4 + r)) k = D.2 (4 + r) k
    rw [if_neg (by omega)]
  · show (if 8 + r = 3 then D.2 3 else D.2 (8 + r)) k = D.2 (8 + r) k
    rw [if_neg (by omega)]
section
variable {d n L N : Nat} {S D : z_S} {Z : z_Zt} {what c zz : Int32} {k : Nat} {nx : Int32 → Int32}
set_option maxRecDepth 20000 in
theorem l_M_seeds0 (hc : D.1 3 = nI n) (hn : n ≤ 5) {z : Int32} (next : ∀ (f fe : Nat → Int32), z_Rl f (dF D fe) → (∀ i, i < n → fe i = 0) → z_Run (d + 4) 73 (z_own 8) z_m180.2.1 z_m180.2.2.1 none (fun v h' => z_nar z_m180.2.2.2.1 v ∧ Z v h') 99 [(0, z_p 59), (1, .inl (nI N)), (3, .inl what), (5, .inl z), (6, .inl c), (7, .inl (nI k))] [] (z_H (z_w S 61 f))) : ∀ m j (f fe : Nat → Int32), j + m = n → z_Rl f (dF D fe) → (∀ i, i < j → fe i = 0) → z_Run (d + 4) 73 (z_own 8) z_m180.2.1 z_m180.2.2.1 none (fun v h' => z_nar z_m180.2.2.2.1 v ∧ Z v h') 67 [(0, z_p 59), (1, .inl (nI N)), (3, .inl what), (5, .inl z), (6, .inl c), (7, .inl (nI k)), (8, .inl (nI j))] [] (z_H (z_w S 61 f)) := by
  intro m
  induction m with
  | zero =>
    intro j f fe hj hf hfe
    have hj : j = n := by omega
    subst hj
    have hs3 : f 3 = nI j := (hf.1 3 (by omega)).trans hc
    refine z_Run_of z_tk180 [(99, [0, 1, 3, 5, 6, 7])] 60 (fun C K R hC hK hR => ?_)
    refine And.intro (vp_in_iff.mpr (by decide)) ?_
    refine And.intro (fun q => ?_) (fun q => absurd (show f 3 ≤ nI j by rw [hs3]; exact nI_le (by omega) (by omega)) q)
    exact hK _ _ _ _ (next f fe hf hfe)
  | succ m ih =>
    intro j f fe hj hf hfe
    have hs3 : f 3 = nI n := (hf.1 3 (by omega)).trans hc
    have ei : ((6 : Int32) + 4 * nI j + 3).toNatClampNeg = 6 + 4 * j + 3 := kidx (j := 3) (by omega) (by omega)
    refine z_Run_of z_tk180 [(67, [0, 1, 3, 5, 6, 7, 8])] 60 (fun C K R hC hK hR => ?_)
    refine And.intro (vp_in_iff.mpr (by decide)) ?_
    refine And.intro (fun q => absurd (show f 3 ≤ nI j from q) (by rw [hs3]; exact nI_ge (by omega) (by omega))) (fun q => ?_)
    refine And.intro (kidv (j := 3) (by omega) (by omega)) ?_
    have := ih (j + 1) (upd f ((6 : Int32) + 4 * nI j + 3).toNatClampNeg 0) (upd fe j 0) (by omega) (by rw [ei]; exact dF_up hf (by omega) 0) (fun i hi => by
      by_cases e : i = j
      · subst e; exact pk_us
      · rw [pk_un e]; exact hfe i (by omega))
    rw [nI_succ] at this
    exact hK _ _ _ _ this
set_option maxRecDepth 20000 in
theorem l_M_seeds1 (hnx : ∀ z, nx z = z * 1664525 + 1013904223) (hc : D.1 3 = nI n) (hn : n ≤ 5) (hL : D.1 0 = nI L) (h1 : 1 ≤ L) (h6 : L ≤ 6) : ∀ m j (gs : Nat → Int32) (z : Int32) (f fe : Nat → Int32), j + m = n → z_Rl f (dF D fe) → (∀ i, i < n → fe i = gs i) → (∀ (f' fe' : Nat → Int32), z_Rl f' (dF D fe') → (∀ i, i < n → fe' i = (drF nx L n m j gs z).1 i) → z_Run (d + 4) 73 (z_own 8) z_m180.2.1 z_m180.2.2.1 none (fun v h' => z_nar z_m180.2.2.2.1 v ∧ Z v h') 210 [(0, z_p 59), (1, .inl (nI N)), (3, .inl what), (5, .inl (drF nx L n m j gs z).2), (6, .inl c), (7, .inl (nI k))] [] (z_H (z_w S 61 f'))) → z_Run (d + 4) 73 (z_own 8) z_m180.2.1 z_m180.2.2.1 none (fun v h' => z_nar z_m180.2.2.2.1 v ∧ Z v h') 102 [(0, z_p 59), (1, .inl (nI N)), (3, .inl what), (5, .inl z), (6, .inl c), (7, .inl (nI k)), (8, .inl (nI j))] [] (z_H (z_w S 61 f)) := by
  intro m
  induction m with
  | zero =>
    intro j gs z f fe hj hf hfe next
    have hj : j = n := by omega
    subst hj
    have hs3 : f 3 = nI j := (hf.1 3 (by omega)).trans hc
    refine z_Run_of z_tk180 [(210, [0, 1, 3, 5, 6, 7])] 60 (fun C K R hC hK hR => ?_)
    refine And.intro (vp_in_iff.mpr (by decide)) ?_
    refine And.intro (fun q => ?_) (fun q => absurd (show f 3 ≤ nI j by rw [hs3]; exact nI_le (by omega) (by omega)) q)
    exact hK _ _ _ _ (next f fe hf hfe)
  | succ m ih =>
    intro j gs z f fe hj hf hfe next
    have hs3 : f 3 = nI n := (hf.1 3 (by omega)).trans hc
    have hs0 : f 0 = nI L := (hf.1 0 (by omega)).trans hL
    have ei : ((6 : Int32) + 4 * nI j + 3).toNatClampNeg = 6 + 4 * j + 3 := kidx (j := 3) (by omega) (by omega)
    have hsi := drS_in h1 h6 (nx z)
    have h2n : ¬ 2 * f 0 = 0 := by rw [hs0, twoL]; exact nI_ne0 (by omega) (by omega)
    have ed : ((nx z) &&& 2147483647) / 256 - ((nx z) &&& 2147483647) / 256 / (2 * f 0) * (2 * f 0) = drI L (nx z) := by rw [hs0]; rfl
    have tail : z_Run (d + 4) 73 (z_own 8) z_m180.2.1 z_m180.2.2.1 none (fun v h' => z_nar z_m180.2.2.2.1 v ∧ Z v h') 179 [(0, z_p 59), (1, .inl (nI N)), (3, .inl what), (5, .inl (nx z)), (6, .inl c), (7, .inl (nI k)), (8, .inl (nI j)), (10, .inl (drS L (nx z)))] [] (z_H (z_w S 61 f)) := by
      refine z_Run_of z_tk180 [(102, [0, 1, 3, 5, 6, 7, 8])] 60 (fun C K R hC hK hR => ?_)
      conv => whnf
      refine hC _ _ _ _ (s_M_whoP (S := z_w S 61 f) (D := dF D fe) hf hc hn hsi.2.2 (fun r hr => ?_))
      have hr : whP r n fe (drS L (nx z)) := hr
      refine And.intro (fun e => ?_) (fun e => ?_)
      · have hu : usedF n gs (drS L (nx z)) = true := by
          rcases hr with ⟨i, hi, -, -, hfi, -⟩ | ⟨-, h0, -⟩
          · exact (used_cg hfe).mp ⟨i, hi, hfi⟩
          · exact absurd h0 (nlt_le e)
        have := ih (j + 1) gs (nx z) f fe (by omega) hf hfe (fun f' fe' g1 g2 => by
          have := next f' fe' g1
          rw [drF, drG, if_pos hu] at this
          exact this g2)
        rw [nI_succ] at this
        exact hK _ _ _ _ this
      · have hu : ¬ usedF n gs (drS L (nx z)) = true := by
          rcases hr with ⟨i, hi, -, h0, -⟩ | ⟨-, -, h3⟩
          · exact absurd (lt_nge e) h0
          · intro z
            obtain ⟨i, hi, hfi⟩ := (used_cg hfe).mpr z
            exact h3 i hi hfi
        refine And.intro (kidv (j := 3) (by omega) (by omega)) ?_
        have := ih (j + 1) (upd gs j (drS L (nx z))) (nx z) (upd f ((6 : Int32) + 4 * nI j + 3).toNatClampNeg (drS L (nx z))) (upd fe j (drS L (nx z))) (by omega) (by rw [ei]; exact dF_up hf (by omega) _) (fun i hi => by
          show _ = upd gs j (drS L (nx z)) i
          by_cases e2 : i = j
          · subst e2; rw [pk_us, pk_us]
          · rw [pk_un e2, pk_un e2]; exact hfe i hi) (fun f' fe' g1 g2 => by
          have := next f' fe' g1
          rw [drF, drG, if_neg hu] at this
          exact this g2)
        rw [nI_succ] at this
        exact hK _ _ _ _ this
    have tail2 : z_Run (d + 4) 73 (z_own 8) z_m180.2.1 z_m180.2.2.1 none (fun v h' => z_nar z_m180.2.2.2.1 v ∧ Z v h') 123 [(0, z_p 59), (1, .inl (nI N)), (3, .inl what), (5, .inl (nx z)), (6, .inl c), (7, .inl (nI k)), (8, .inl (nI j))] [] (z_H (z_w S 61 f)) := by
      refine z_Run_of z_tk180 [(179, [0, 1, 3, 5, 6, 7, 8, 10])] 60 (fun C K R hC hK hR => ?_)
      refine And.intro (by decide) ?_
      refine And.intro (vp_in_iff.mpr (by decide)) ?_
      refine And.intro h2n ?_
      refine And.intro (vp_in_iff.mpr (by decide)) ?_
      refine And.intro (fun e => ?_) (fun e => ?_)
      · have e : f 0 ≤ ((nx z) &&& 2147483647) / 256 - ((nx z) &&& 2147483647) / 256 / (2 * f 0) * (2 * f 0) := e
        rw [ed, hs0] at e
        refine And.intro (vp_in_iff.mpr (by decide)) ?_
        have es : drS L (nx z) = ((nx z) &&& 2147483647) / 256 - ((nx z) &&& 2147483647) / 256 / (2 * f 0) * (2 * f 0) - f 0 + 1 := by
          rw [ed, hs0]
          unfold drS
          rw [if_neg (nlt_le e)]
        rw [es] at tail
        exact hK _ _ _ _ tail
      · have e : ¬ f 0 ≤ ((nx z) &&& 2147483647) / 256 - ((nx z) &&& 2147483647) / 256 / (2 * f 0) * (2 * f 0) := e
        rw [ed, hs0] at e
        refine And.intro (vp_in_iff.mpr (by decide)) ?_
        have es : drS L (nx z) = ((nx z) &&& 2147483647) / 256 - ((nx z) &&& 2147483647) / 256 / (2 * f 0) * (2 * f 0) - f 0 := by
          rw [ed, hs0]
          unfold drS
          rw [if_pos (lt_nge e)]
        rw [es] at tail
        exact hK _ _ _ _ tail
    rw [hnx] at tail2
    refine z_Run_of z_tk180 [(123, [0, 1, 3, 5, 6, 7, 8])] 60 (fun C K R hC hK hR => ?_)
    refine And.intro (vp_in_iff.mpr (by decide)) ?_
    refine And.intro (fun q => absurd (show f 3 ≤ nI j from q) (by rw [hs3]; exact nI_ge (by omega) (by omega))) (fun q => ?_)
    exact hK _ _ _ _ tail2
end
