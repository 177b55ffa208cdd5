/-! goes that fit: both sides; fitting -/
def gwF (own notch w se we ot : Int32) : Int32 := sideF (w * armF notch se + (if ot = 0 then 0 else we * armF notch ot) + ownF own notch)
def goB (own notch : Int32) (se we ot to : Nat → Int32) (g : Nat) (w : Int32) : Bool := (List.range g).all (fun i => gwF own notch w (se i) (we i) (ot i) = to i)
theorem goB_y {own notch : Int32} {se we ot to : Nat → Int32} {g : Nat} {w : Int32} (h : ∀ i, i < g → gwF own notch w (se i) (we i) (ot i) = to i) : goB own notch se we ot to g w = true := by
  unfold goB
  rw [List.all_eq_true]
  exact fun i hi => decide_eq_true (h i (List.mem_range.mp hi))
theorem goB_n {own notch : Int32} {se we ot to : Nat → Int32} {g i : Nat} {w : Int32} (hi : i < g) (h : ¬ gwF own notch w (se i) (we i) (ot i) = to i) : ¬ goB own notch se we ot to g w = true := by
  unfold goB
  rw [List.all_eq_true]
  exact fun z => h (of_decide_eq_true (z i (List.mem_range.mpr hi)))
def goD (D : z_S) (g : Nat) (w : Int32) : Bool := goB (D.1 1) (D.1 2) (D.2 4) (D.2 5) (D.2 6) (D.2 7) g w
set_option maxRecDepth 20000 in
theorem l_G_fit {d g : Nat} {S : z_S} {Z : z_Zt} {w : Int32} (hg : S.1 12 = nI g) (hg10 : g ≤ 10) (hz : ∀ r : Int32, z_b r (goD (dN S) g w = true) → Z (some (.inl r)) (z_H S)) : ∀ m k, k + m = g → (∀ i, i < k → gwF (S.1 1) (S.1 2) w (S.2 20 i) (S.2 21 i) (S.2 22 i) = S.2 23 i) → z_Run (d + 3) 73 (z_own 1) z_m34.2.1 z_m34.2.2.1 none (fun v h' => z_nar z_m34.2.2.2.1 v ∧ Z v h') 2 [(0, z_p 19), (1, z_p 4), (2, .inl w), (3, .inl (nI k))] [] (z_H S) := by
  intro m
  induction m with
  | zero =>
    intro k hk hall
    have hk : k = g := by omega
    subst hk
    refine z_Run_of z_tk34 [] 60 (fun C K R hC hK hR => ?_)
    refine And.intro (fun q => ?_) (fun q => absurd (show S.1 12 ≤ nI k by rw [hg]; exact nI_le (by omega) (by omega)) q)
    exact hR _ _ ⟨⟨_, rfl, rfl⟩, hz _ (Or.inl ⟨rfl, goB_y hall⟩)⟩
  | succ m ih =>
    intro k hk hall
    have hcl : (nI k).toNatClampNeg = k := nI_clamp (by omega)
    have hin : vp_in (nI k) 10 := vp_in_nI (by omega) (by omega)
    have tail : ∀ bt : Int32, bt = (if S.2 22 k = 0 then 0 else S.2 21 k * armF (S.1 2) (S.2 22 k)) → z_Run (d + 3) 73 (z_own 1) z_m34.2.1 z_m34.2.2.1 none (fun v h' => z_nar z_m34.2.2.2.1 v ∧ Z v h') 42 [(0, z_p 19), (1, z_p 4), (2, .inl w), (3, .inl (nI k)), (4, .inl bt)] [] (z_H S) := by
      intro bt hbt
      refine z_Run_of z_tk34 [(2, [0, 1, 2, 3])] 60 (fun C K R hC hK hR => ?_)
      conv => whnf
      refine hC _ _ _ _ (s_B0_ownTurn (fun r1 hr1 => ?_))
      refine And.intro hin ?_
      conv => whnf
      refine hC _ _ _ _ (s_B0_armOf (fun r2 hr2 => ?_))
      rw [hcl] at hr2
      conv => whnf
      refine hC _ _ _ _ (s_X_sideOf (h := z_H S) (fun r3 hr3 => ?_))
      have hr3 : r3 = sideF (r1 + w * r2 + bt) := hr3
      have e3 : r3 = gwF (S.1 1) (S.1 2) w (S.2 20 k) (S.2 21 k) (S.2 22 k) := by
        rw [hr3, hr1, hr2, hbt]
        unfold gwF
        congr 1
        clear hz hR hC hK ih hall
        grind
      refine And.intro hin ?_
      refine And.intro (fun e => ?_) (fun e => ?_)
      · have e : r3 = S.2 23 (nI k).toNatClampNeg := e
        rw [hcl, e3] at e
        have := ih (k + 1) (by omega) (fun i hi => by
          by_cases q : i = k
          · subst q; exact e
          · exact hall i (by omega))
        rw [nI_succ] at this
        exact hK _ _ _ _ this
      · have e : ¬ r3 = S.2 23 (nI k).toNatClampNeg := e
        rw [hcl, e3] at e
        exact hR _ _ ⟨⟨_, rfl, rfl⟩, hz _ (Or.inr ⟨rfl, goB_n (by omega) e⟩)⟩
    refine z_Run_of z_tk34 [(42, [0, 1, 2, 3, 4])] 60 (fun C K R hC hK hR => ?_)
    refine And.intro (fun q => absurd (show S.1 12 ≤ nI k from q) (by rw [hg]; exact nI_ge (by omega) (by omega))) (fun q => ?_)
    refine And.intro hin ?_
    refine And.intro (fun e => ?_) (fun e => ?_)
    · have e : ¬ S.2 22 (nI k).toNatClampNeg = 0 := e
      rw [hcl] at e
      refine And.intro hin (And.intro hin ?_)
      conv => whnf
      refine hC _ _ _ _ (s_B0_armOf (fun r2 hr2 => ?_))
      rw [hcl] at hr2
      refine hK _ _ _ _ (tail _ ?_)
      rw [if_neg e, hr2, hcl]
    · have e : S.2 22 (nI k).toNatClampNeg = 0 := e
      rw [hcl] at e
      refine hK _ _ _ _ (tail _ ?_)
      rw [if_pos e]
set_option maxRecDepth 20000 in
theorem s_G_fit {d g : Nat} {S : z_S} {Z : z_Zt} {w : Int32} (hg : S.1 12 = nI g) (hg10 : g ≤ 10) (hz : ∀ r : Int32, z_b r (goD (dN S) g w = true) → Z (some (.inl r)) (z_H S)) : z_EvM (d + 3) 73 34 [z_p 19, z_p 4, .inl w] (z_H S) Z := by
  refine z_go (c := 1) (t := z_t34) rfl rfl rfl z_tk34 [(2, [0, 1, 2, 3])] 60 (fun C K R hC hK hR => ?_)
  exact hK _ _ _ _ (l_G_fit hg hg10 hz g 0 (by omega) (fun i hi => by omega))
section
variable {d g : Nat} {S D : z_S} {Z : z_Zt} {w : Int32}
set_option maxRecDepth 20000 in
theorem s_M_downWith {se we ot : Int32} (hD : z_Rl (S.2 61) D) (hz : ∀ r, r = gwF (D.1 1) (D.1 2) w se we ot → Z (some (.inl r)) (z_H S)) : z_EvM (d + 2) 73 159 [z_p 59, .inl w, .inl se, .inl we, .inl ot] (z_H S) Z := by
  refine z_go (c := 8) (t := z_t159) rfl rfl rfl z_tk159 [] 100 (fun C K R hC hK hR => ?_)
  conv => whnf
  refine hC _ _ _ _ (s_M_armN hD ?_)
  refine And.intro (fun e => ?_) (fun e => ?_)
  · conv => whnf
    refine hC _ _ _ _ (s_M_armN hD ?_)
    conv => whnf
    refine hC _ _ _ _ (s_M_bare (fun r hr => ?_))
    conv => whnf
    refine hC _ _ _ _ (s_M_downBy (h := z_H S) (fun r2 hr2 => ?_))
    refine hR _ _ ⟨_, rfl, rfl⟩ (hz _ ?_)
    rw [hr2, hr, hD.1 1 (by omega), hD.1 2 (by omega)]
    unfold gwF
    rw [if_neg e]
  · conv => whnf
    refine hC _ _ _ _ (s_M_bare (fun r hr => ?_))
    conv => whnf
    refine hC _ _ _ _ (s_M_downBy (h := z_H S) (fun r2 hr2 => ?_))
    refine hR _ _ ⟨_, rfl, rfl⟩ (hz _ ?_)
    rw [hr2, hr, hD.1 1 (by omega), hD.1 2 (by omega)]
    unfold gwF
    rw [if_pos e]
theorem go_at (hD : z_Rl (S.2 61) D) {k : Nat} (hk : k < 10) : (vp_in (26 + 4 * nI k) 90 ∧ S.2 61 (26 + 4 * nI k).toNatClampNeg = D.2 4 k) ∧ (vp_in (26 + 4 * nI k + 1) 90 ∧ S.2 61 (26 + 4 * nI k + 1).toNatClampNeg = D.2 5 k) ∧ (vp_in (26 + 4 * nI k + 2) 90 ∧ S.2 61 (26 + 4 * nI k + 2).toNatClampNeg = D.2 6 k) ∧ (vp_in (26 + 4 * nI k + 3) 90 ∧ S.2 61 (26 + 4 * nI k + 3).toNatClampNeg = D.2 7 k) := by
  have ei : (26 : Int32) + 4 * nI k = nI (26 + 4 * k) := goix ⟨k, hk⟩
  have e1 : nI (26 + 4 * k) + 1 = nI (26 + 4 * k + 1) := nI_k _ 1 1 rfl
  have e2 : nI (26 + 4 * k) + 2 = nI (26 + 4 * k + 2) := nI_k _ 2 2 rfl
  have e3 : nI (26 + 4 * k) + 3 = nI (26 + 4 * k + 3) := nI_k _ 3 3 rfl
  have h := hD.2.2.1 k hk
  rw [ei, e1, e2, e3, nI_clamp (by omega), nI_clamp (by omega), nI_clamp (by omega), nI_clamp (by omega)]
  exact ⟨⟨vp_in_nI (by omega) (by omega), h 0 (by omega)⟩, ⟨vp_in_nI (by omega) (by omega), h 1 (by omega)⟩, ⟨vp_in_nI (by omega) (by omega), h 2 (by omega)⟩, ⟨vp_in_nI (by omega) (by omega), h 3 (by omega)⟩⟩
set_option maxRecDepth 20000 in
theorem l_M_fits (hD : z_Rl (S.2 61) D) (hg : D.1 4 = nI g) (hg10 : g ≤ 10) (hz : ∀ r : Int32, z_b r (goD D g w = true) → Z (some (.inl r)) (z_H S)) : ∀ m k, k + m = g → (∀ i, i < k → gwF (D.1 1) (D.1 2) w (D.2 4 i) (D.2 5 i) (D.2 6 i) = D.2 7 i) → z_Run (d + 3) 73 (z_own 8) z_m160.2.1 z_m160.2.2.1 none (fun v h' => z_nar z_m160.2.2.2.1 v ∧ Z v h') 2 [(0, z_p 59), (1, .inl w), (2, .inl (nI k))] [] (z_H S) := by
  have hs4 : S.2 61 4 = nI g := (hD.1 4 (by omega)).trans hg
  intro m
  induction m with
  | zero =>
    intro k hk hall
    have hk : k = g := by omega
    subst hk
    refine z_Run_of z_tk160 [] 60 (fun C K R hC hK hR => ?_)
    refine And.intro (vp_in_iff.mpr (by decide)) ?_
    refine And.intro (fun q => ?_) (fun q => absurd (show S.2 61 4 ≤ nI k by rw [hs4]; exact nI_le (by omega) (by omega)) q)
    exact hR _ _ ⟨⟨_, rfl, rfl⟩, hz _ (Or.inl ⟨rfl, goB_y hall⟩)⟩
  | succ m ih =>
    intro k hk hall
    obtain ⟨⟨v1, w1⟩, ⟨v2, w2⟩, ⟨v3, w3⟩, ⟨v4, w4⟩⟩ := go_at hD (k := k) (by omega)
    refine z_Run_of z_tk160 [(2, [0, 1, 2])] 60 (fun C K R hC hK hR => ?_)
    refine And.intro (vp_in_iff.mpr (by decide)) ?_
    refine And.intro (fun q => absurd (show S.2 61 4 ≤ nI k from q) (by rw [hs4]; exact nI_ge (by omega) (by omega))) (fun q => ?_)
    refine And.intro v1 (And.intro v2 (And.intro v3 ?_))
    conv => whnf
    refine hC _ _ _ _ (s_M_downWith hD (fun r hr => ?_))
    rw [w1, w2, w3] at hr
    refine And.intro v4 ?_
    refine And.intro (fun e => ?_) (fun e => ?_)
    · have e : r = S.2 61 (26 + 4 * nI k + 3).toNatClampNeg := e
      rw [w4, hr] at e
      have := ih (k + 1) (by omega) (fun i hi => by
        by_cases q : i = k
        · subst q; exact e
        · exact hall i (by omega))
      rw [nI_succ] at this
      exact hK _ _ _ _ this
    · have e : ¬ r = S.2 61 (26 + 4 * nI k + 3).toNatClampNeg := e
      rw [w4, hr] at e
      exact hR _ _ ⟨⟨_, rfl, rfl⟩, hz _ (Or.inr ⟨rfl, goB_n (by omega) e⟩)⟩
set_option maxRecDepth 20000 in
theorem s_M_fits (hD : z_Rl (S.2 61) D) (hg : D.1 4 = nI g) (hg10 : g ≤ 10) (hz : ∀ r : Int32, z_b r (goD D g w = true) → Z (some (.inl r)) (z_H S)) : z_EvM (d + 3) 73 160 [z_p 59, .inl w] (z_H S) Z := by
  refine z_go (c := 8) (t := z_t160) rfl rfl rfl z_tk160 [(2, [0, 1, 2])] 60 (fun C K R hC hK hR => ?_)
  exact hK _ _ _ _ (l_M_fits hD hg hg10 hz g 0 (by omega) (fun i hi => by omega))
end
/-- how many fit, the least, the greatest -/
abbrev z_P3 : Type := Int32 × Int32 × Int32
def foS (gb : Int32 → Bool) (w : Nat) (st : z_P3) : z_P3 := if gb (nI w) = true then (st.1 + 1, if st.1 = 0 then nI w else st.2.1, nI w) else st
def foF (gb : Int32 → Bool) : Nat → Nat → z_P3 → z_P3
  | 0, _, st => st
  | m + 1, w, st => foF gb m (w + 1) (foS gb w st)
def loS (S : z_S) (st : z_P3) (f : Nat → Int32) : z_S := z_w (z_u (z_u (z_u S 13 st.1) 14 st.2.1) 15 st.2.2) 24 f
theorem zb_val {r : Int32} {b : Bool} (h : z_b r (b = true)) : r = (if b = true then 1 else 0) := by
  rcases h with ⟨a, c⟩ | ⟨a, c⟩
  · rw [a, if_pos c]
  · rw [a, if_neg c]
theorem nar_b {r : Int32} {P : Prop} (h : z_b r P) : vp_nar .boolean r = r := by
  rcases h with ⟨a, c⟩ | ⟨a, c⟩
  · subst a; rfl
  · subst a; rfl
set_option maxRecDepth 20000 in
theorem l_G_look {d g : Nat} {S : z_S} {Z : z_Zt} (hg : S.1 12 = nI g) (hg10 : g ≤ 10) : ∀ m w (st : z_P3) (f : Nat → Int32), w + m = 61 → 1 ≤ w → (∀ j, 1 ≤ j → j < w → f j = (if goD (dN S) g (nI j) = true then 1 else 0)) → (∀ f', (∀ j, 1 ≤ j → j < 61 → f' j = (if goD (dN S) g (nI j) = true then 1 else 0)) → Z none (z_H (loS S (foF (goD (dN S) g) m w st) f'))) → z_Run (d + 4) 73 (z_own 1) z_m31.2.1 z_m31.2.2.1 none (fun v h' => z_nar z_m31.2.2.2.1 v ∧ Z v h') 19 [(0, z_p 19), (1, z_p 4), (2, .inl (nI w))] [] (z_H (loS S st f)) := by
  intro m
  induction m with
  | zero =>
    intro w st f hw h1 hf hz
    have hw : w = 61 := by omega
    subst hw
    refine z_Run_of z_tk31 [] 60 (fun C K R hC hK hR => ?_)
    refine And.intro (fun q => ?_) (fun q => absurd (by decide) q)
    exact hR _ _ ⟨rfl, hz f hf⟩
  | succ m ih =>
    intro w st f hw h1 hf hz
    have hcl : (nI w).toNatClampNeg = w := nI_clamp (by omega)
    have hin : vp_in (nI w) 61 := vp_in_nI (by omega) (by omega)
    refine z_Run_of z_tk31 [(19, [0, 1, 2]), (37, [0, 1, 2])] 60 (fun C K R hC hK hR => ?_)
    refine And.intro (fun q => absurd q (show ¬ (60 : Int32) < nI w from nI_nlt (a := 60) (b := w) (by omega) (by omega))) (fun q => ?_)
    conv => whnf
    refine hC _ _ _ _ (s_G_fit (S := loS S st f) hg hg10 (fun r hr => ?_))
    have hr : z_b r (goD (dN S) g (nI w) = true) := hr
    refine And.intro hin ?_
    have hf2 : ∀ j, 1 ≤ j → j < w + 1 → upd f (nI w).toNatClampNeg (vp_nar .boolean r) j = (if goD (dN S) g (nI j) = true then 1 else 0) := by
      intro j hj hj2
      rw [hcl, nar_b hr]
      by_cases e : j = w
      · subst e
        rw [pk_us]
        exact zb_val hr
      · rw [pk_un e]
        exact hf j hj (by omega)
    refine hK _ _ _ _ (show z_Run (d + 4) 73 (z_own 1) z_m31.2.1 z_m31.2.2.1 none (fun v h' => z_nar z_m31.2.2.2.1 v ∧ Z v h') 37 [(0, z_p 19), (1, z_p 4), (2, .inl (nI w))] [] (z_H (loS S st (upd f (nI w).toNatClampNeg (vp_nar .boolean r)))) from ?_)
    generalize hf3 : upd f (nI w).toNatClampNeg (vp_nar .boolean r) = f3 at hf2 ⊢
    refine z_Run_of z_tk31 [(19, [0, 1, 2])] 60 (fun C K R hC hK hR => ?_)
    refine And.intro hin ?_
    have fw := hf2 w h1 (by omega)
    refine And.intro (fun e => ?_) (fun e => ?_)
    · have e : f3 (nI w).toNatClampNeg = 0 := e
      rw [hcl, fw] at e
      have hno : ¬ goD (dN S) g (nI w) = true := fun z => by rw [if_pos z] at e; exact absurd e (by decide)
      have := ih (w + 1) st f3 (by omega) (by omega) hf2 (fun f' hf' => by
        have := hz f' hf'
        rw [foF, foS, if_neg hno] at this
        exact this)
      rw [nI_succ] at this
      exact hK _ _ _ _ this
    · have e : ¬ f3 (nI w).toNatClampNeg = 0 := e
      rw [hcl, fw] at e
      have hyes : goD (dN S) g (nI w) = true := by
        by_cases z : goD (dN S) g (nI w) = true
        · exact z
        · rw [if_neg z] at e
          exact absurd rfl e
      refine And.intro (fun e2 => ?_) (fun e2 => ?_)
      · have e2 : ¬ st.1 = 0 := e2
        have := ih (w + 1) (st.1 + 1, st.2.1, nI w) f3 (by omega) (by omega) hf2 (fun f' hf' => by
          have := hz f' hf'
          rw [foF, foS, if_pos hyes, if_neg e2] at this
          exact this)
        rw [nI_succ] at this
        exact hK _ _ _ _ this
      · have e2 : st.1 = 0 := e2
        have := ih (w + 1) (st.1 + 1, nI w, nI w) f3 (by omega) (by omega) hf2 (fun f' hf' => by
          have := hz f' hf'
          rw [foF, foS, if_pos hyes, if_pos e2] at this
          exact this)
        rw [nI_succ] at this
        exact hK _ _ _ _ this
def foA (D : z_S) (g : Nat) : z_P3 := foF (goD D g) 60 1 (0, -9, -9)
set_option maxRecDepth 20000 in
theorem s_G_look {d g : Nat} {S : z_S} {Z : z_Zt} (hg : S.1 12 = nI g) (hg10 : g ≤ 10) (hz : ∀ f', (∀ j, 1 ≤ j → j < 61 → f' j = (if goD (dN S) g (nI j) = true then 1 else 0)) → Z none (z_H (loS S (foA (dN S) g) f'))) : z_EvM (d + 4) 73 31 [z_p 19, z_p 4] (z_H S) Z := by
  refine z_go (c := 1) (t := z_t31) rfl rfl rfl z_tk31 [(19, [0, 1, 2])] 60 (fun C K R hC hK hR => ?_)
  have := l_G_look (d := d) (S := S) (Z := Z) hg hg10 60 1 (0, -9, -9) (S.2 24) (by omega) (by omega) (fun j h1 h2 => by omega) hz
  exact hK _ _ _ _ this
def foJ (k : Nat) (st : z_P3) : Prop := (st.1 = 0 ∧ st.2.1 = -9) ∨ (∃ c, 1 ≤ c ∧ c ≤ k ∧ st.1 = nI c ∧ ¬ st.2.1 < 0)
theorem foJ_st {gb : Int32 → Bool} {w : Nat} {st : z_P3} (h : foJ w st) (hw : w < 100) : foJ (w + 1) (foS gb w st) := by
  unfold foS
  by_cases q : gb (nI w) = true
  · rw [if_pos q]
    rcases h with ⟨h1, h2⟩ | ⟨c, h1, h2, h3, h4⟩
    · refine Or.inr ⟨1, by omega, by omega, ?_, ?_⟩
      · show st.1 + 1 = nI 1
        rw [h1]
        rfl
      · show ¬ (if st.1 = 0 then nI w else st.2.1) < 0
        rw [if_pos h1]
        exact nI_pos (by omega)
    · refine Or.inr ⟨c + 1, by omega, by omega, ?_, ?_⟩
      · show st.1 + 1 = nI (c + 1)
        rw [h3, nI_succ]
      · show ¬ (if st.1 = 0 then nI w else st.2.1) < 0
        rw [if_neg (by rw [h3]; exact nI_ne0 (by omega) (by omega))]
        exact h4
  · rw [if_neg q]
    rcases h with h | ⟨c, h1, h2, h3⟩
    · exact Or.inl h
    · exact Or.inr ⟨c, h1, by omega, h3⟩
section
variable {d g : Nat} {S D : z_S} {Z : z_Zt} {what : Int32}
set_option maxRecDepth 20000 in
theorem l_M_fitting (hD : z_Rl (S.2 61) D) (hg : D.1 4 = nI g) (hg10 : g ≤ 10) : ∀ m w (st : z_P3), w + m = 61 → 1 ≤ w → foJ w st → (∀ a, a = (if what = 0 then (foF (goD D g) m w st).1 else if what = 1 then (foF (goD D g) m w st).2.1 else (foF (goD D g) m w st).2.2) → Z (some (.inl a)) (z_H S)) → z_Run (d + 4) 73 (z_own 8) z_m161.2.1 z_m161.2.2.1 none (fun v h' => z_nar z_m161.2.2.2.1 v ∧ Z v h') 27 [(0, z_p 59), (1, .inl what), (2, .inl st.1), (3, .inl st.2.1), (4, .inl st.2.2), (5, .inl (nI w))] [] (z_H S) := by
  intro m
  induction m with
  | zero =>
    intro w st hw h1 hJ hz
    have hw : w = 61 := by omega
    subst hw
    refine z_Run_of z_tk161 [] 60 (fun C K R hC hK hR => ?_)
    refine And.intro (fun q => ?_) (fun q => absurd (by decide) q)
    refine And.intro (fun q => And.intro (fun q2 => ?_) (fun q2 => ?_)) (fun q => ?_)
    · exact hR _ _ ⟨⟨_, rfl, rfl⟩, hz _ (by rw [if_neg q, if_neg q2]; rfl)⟩
    · exact hR _ _ ⟨⟨_, rfl, rfl⟩, hz _ (by rw [if_neg q, if_pos q2]; rfl)⟩
    · exact hR _ _ ⟨⟨_, rfl, rfl⟩, hz _ (by rw [if_pos q]; rfl)⟩
  | succ m ih =>
    intro w st hw h1 hJ hz
    have hJ2 := foJ_st (gb := goD D g) hJ (by omega)
    refine z_Run_of z_tk161 [(27, [0, 1, 2, 3, 4, 5])] 60 (fun C K R hC hK hR => ?_)
    refine And.intro (fun q => absurd q (show ¬ (60 : Int32) < nI w from nI_nlt (a := 60) (b := w) (by omega) (by omega))) (fun q => ?_)
    conv => whnf
    refine hC _ _ _ _ (s_M_fits hD hg hg10 (fun r hr => ?_))
    refine And.intro (fun e => ?_) (fun e => ?_)
    · have hyes := zb_t hr e
      rw [foS, if_pos hyes] at hJ2
      refine And.intro (fun e2 => ?_) (fun e2 => ?_)
      · have h2 : ¬ st.1 = 0 := by
          intro z
          rcases hJ with ⟨-, h3⟩ | ⟨c, h3, h4, h5, -⟩
          · rw [h3] at e2
            exact absurd e2 (by decide)
          · rw [h5] at z
            exact nI_ne0 (by omega) (by omega) z
        rw [if_neg h2] at hJ2
        have := ih (w + 1) (st.1 + 1, st.2.1, nI w) (by omega) (by omega) hJ2 (fun a ha => hz a (by rw [ha, foF, foS, if_pos hyes, if_neg h2]))
        rw [nI_succ] at this
        exact hK _ _ _ _ this
      · have h2 : st.1 = 0 := by
          rcases hJ with ⟨h3, -⟩ | ⟨c, -, -, -, h4⟩
          · exact h3
          · exact absurd (lt_nge e2) h4
        rw [if_pos h2] at hJ2
        have := ih (w + 1) (st.1 + 1, nI w, nI w) (by omega) (by omega) hJ2 (fun a ha => hz a (by rw [ha, foF, foS, if_pos hyes, if_pos h2]))
        rw [nI_succ] at this
        exact hK _ _ _ _ this
    · have hno := zb_f hr e
      rw [foS, if_neg hno] at hJ2
      have := ih (w + 1) st (by omega) (by omega) hJ2 (fun a ha => hz a (by rw [ha, foF, foS, if_neg hno]))
      rw [nI_succ] at this
      exact hK _ _ _ _ this
set_option maxRecDepth 20000 in
theorem s_M_fittingOk (hD : z_Rl (S.2 61) D) (hg : D.1 4 = nI g) (hg10 : g ≤ 10) (hw : isN what 3) (hz : ∀ a, a = (if what = 0 then (foA D g).1 else if what = 1 then (foA D g).2.1 else (foA D g).2.2) → Z (some (.inl a)) (z_H S)) : z_EvM (d + 4) 73 161 [z_p 59, .inl what] (z_H S) Z := by
  refine z_go (c := 8) (t := z_t161) rfl rfl rfl z_tk161 [(27, [0, 1, 2, 3, 4, 5])] 60 (fun C K R hC hK hR => ?_)
  conv => whnf
  refine hC _ _ _ _ (s_M_isInP 3 (by omega) rfl (fun r hr => ?_))
  refine And.intro (fun _ => ?_) (fun e => absurd hw (zb_f hr e))
  exact hK _ _ _ _ (l_M_fitting (d := d) hD hg hg10 60 1 (0, -9, -9) (by omega) (by omega) (Or.inl ⟨rfl, rfl⟩) hz)
set_option maxRecDepth 20000 in
theorem s_M_fittingNo (hw : ¬ isN what 3) (hz : Z (some (.inl (-2))) (z_H (z_rm2 S 2))) : z_EvM (d + 4) 73 161 [z_p 59, .inl what] (z_H S) Z := by
  refine z_go (c := 8) (t := z_t161) rfl rfl rfl z_tk161 [] 100 (fun C K R hC hK hR => ?_)
  conv => whnf
  refine hC _ _ _ _ (s_M_isInP 3 (by omega) rfl (fun r hr => ?_))
  refine And.intro (fun e => absurd (zb_t hr e) hw) (fun _ => ?_)
  conv => whnf
  refine hC _ _ _ _ (s_M_refuse (k := 2) (by omega) rfl ?_)
  exact hR _ _ ⟨_, rfl, rfl⟩ hz
end
theorem Inv_lo {S : z_S} (hI : Inv S) (st : z_P3) (f : Nat → Int32) : Inv (loS S st f) := by
  obtain ⟨n, g, u, t, w, hok, hRl, him, htx, hrw, hrf, hpl⟩ := hI
  exact ⟨n, g, u, t, w, hok, hRl, him, htx, hrw, hrf, hpl⟩
set_option maxRecDepth 20000 in
theorem op_fitting (what : Int32) : z_op 80 161 [.inl what] := by
  intro S hI Z hz
  obtain ⟨n, g, u, t, w, hok, hRl, him, htx, hrw, hrf, hpl⟩ := id hI
  obtain ⟨hn, ⟨hg10, hg⟩, hu, hL, hO, hN, hf, hwe, hdi, hgu⟩ := id hok
  have bad : ¬ isN what 3 → z_Run 600 73 (z_own 7) z_m80.2.1 z_m80.2.2.1 none (fun v h' => z_nar z_m80.2.2.2.1 v ∧ Z v h') 9 [(0, z_p 0)] [] (z_H S) := by
    intro h
    refine z_Run_of z_tk80 [] 60 (fun C K R hC hK hR => ?_)
    conv => whnf
    refine hC _ _ _ _ (s_X_refuse 2 (by omega) rfl ?_)
    exact hR _ _ ⟨⟨_, rfl, rfl⟩, hz _ _ (fun Z2 hz2 => s_M_fittingNo h (hz2 _ _ rfl (Inv_ref hI (by omega))))⟩
  have i3 := isN_iff (c := what) (n := 3) (by omega)
  have i3 : (0 ≤ what ∧ what < 3) ↔ isN what 3 := i3
  refine z_go (c := 7) (t := z_t80) rfl rfl rfl z_tk80 [(9, [0])] 60 (fun C K R hC hK hR => ?_)
  refine And.intro (fun q => hK _ _ _ _ (bad (fun z => by have := (i3.mpr z).1; exact nlt_le this q))) (fun q => ?_)
  refine And.intro (fun q2 => ?_) (fun q2 => hK _ _ _ _ (bad (fun z => by have := (i3.mpr z).2; clear hz hR hC hK bad i3; grind)))
  have hw : isN what 3 := i3.mp ⟨nlt_ge q, by clear hz hR hC hK bad i3; grind⟩
  conv => whnf
  refine hC _ _ _ _ (s_G_look hg hg10 (fun f hf => ?_))
  have ret : ∀ a, a = (if what = 0 then (foA (dN S) g).1 else if what = 1 then (foA (dN S) g).2.1 else (foA (dN S) g).2.2) → Z (some (.inl a)) (z_H (loS S (foA (dN S) g) f)) := by
    intro a ha
    refine hz a (loS S (foA (dN S) g) f) (fun Z2 hz2 => ?_)
    exact s_M_fittingOk (S := loS S (foA (dN S) g) f) (D := dN S) hRl hg hg10 hw (fun b hb => hz2 b _ (hb.trans ha.symm) (Inv_lo hI _ _))
  refine And.intro (fun e => ?_) (fun e => And.intro (fun e2 => ?_) (fun e2 => ?_))
  · exact hR _ _ ⟨_, rfl, rfl⟩ (ret _ (by rw [if_pos e]; rfl))
  · exact hR _ _ ⟨_, rfl, rfl⟩ (ret _ (by rw [if_neg e, if_pos e2]; rfl))
  · exact hR _ _ ⟨_, rfl, rfl⟩ (ret _ (by rw [if_neg e, if_neg e2]; rfl))
