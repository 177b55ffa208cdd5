/-! copies: boards, goes, guesses of the class; rows of the reference -/
theorem cpy_at {f g : Nat → Int32} {n k : Nat} (h : k < n) : va_cpy f g 0 0 n k = f k := by
  unfold va_cpy
  rw [if_pos ⟨by omega, by omega⟩, Nat.zero_add, Nat.sub_zero]
def bec02 (S : z_S) : z_S := z_w (z_w (z_w (z_w (z_u (z_u (z_u (z_u S 0 (S.1 8)) 1 (S.1 9)) 2 (S.1 10)) 3 (S.1 11)) 5 (va_cpy (S.2 15) (S.2 5) 0 0 5)) 6 (va_cpy (S.2 16) (S.2 6) 0 0 5)) 7 (va_cpy (S.2 17) (S.2 7) 0 0 5)) 8 (va_cpy (S.2 18) (S.2 8) 0 0 5)
set_option maxRecDepth 20000 in
theorem s_B_become02 {d : Nat} {S : z_S} {Z : z_Zt} (hz : Z none (z_H (bec02 S))) : z_EvM (d + 1) 73 0 [z_p 4, z_p 14] (z_H S) Z := by
  refine z_go (c := 0) (t := z_t0) rfl rfl rfl z_tk0 [] 100 (fun C K R hC hK hR => ?_)
  refine And.intro ⟨⟨by decide, by decide, by decide⟩, by decide, by decide⟩ ?_
  refine And.intro ⟨⟨by decide, by decide, by decide⟩, by decide, by decide⟩ ?_
  refine And.intro ⟨⟨by decide, by decide, by decide⟩, by decide, by decide⟩ ?_
  refine And.intro ⟨⟨by decide, by decide, by decide⟩, by decide, by decide⟩ ?_
  exact hR _ _ rfl hz
def bec20 (S : z_S) : z_S := z_w (z_w (z_w (z_w (z_u (z_u (z_u (z_u S 8 (S.1 0)) 9 (S.1 1)) 10 (S.1 2)) 11 (S.1 3)) 15 (va_cpy (S.2 5) (S.2 15) 0 0 5)) 16 (va_cpy (S.2 6) (S.2 16) 0 0 5)) 17 (va_cpy (S.2 7) (S.2 17) 0 0 5)) 18 (va_cpy (S.2 8) (S.2 18) 0 0 5)
set_option maxRecDepth 20000 in
theorem s_B_become20 {d : Nat} {S : z_S} {Z : z_Zt} (hz : Z none (z_H (bec20 S))) : z_EvM (d + 1) 73 0 [z_p 14, z_p 4] (z_H S) Z := by
  refine z_go (c := 0) (t := z_t0) rfl rfl rfl z_tk0 [] 100 (fun C K R hC hK hR => ?_)
  refine And.intro ⟨⟨by decide, by decide, by decide⟩, by decide, by decide⟩ ?_
  refine And.intro ⟨⟨by decide, by decide, by decide⟩, by decide, by decide⟩ ?_
  refine And.intro ⟨⟨by decide, by decide, by decide⟩, by decide, by decide⟩ ?_
  refine And.intro ⟨⟨by decide, by decide, by decide⟩, by decide, by decide⟩ ?_
  exact hR _ _ rfl hz
def bec01 (S : z_S) : z_S := z_w (z_w (z_w (z_w (z_u (z_u (z_u (z_u S 0 (S.1 4)) 1 (S.1 5)) 2 (S.1 6)) 3 (S.1 7)) 5 (va_cpy (S.2 10) (S.2 5) 0 0 5)) 6 (va_cpy (S.2 11) (S.2 6) 0 0 5)) 7 (va_cpy (S.2 12) (S.2 7) 0 0 5)) 8 (va_cpy (S.2 13) (S.2 8) 0 0 5)
set_option maxRecDepth 20000 in
theorem s_B_become01 {d : Nat} {S : z_S} {Z : z_Zt} (hz : Z none (z_H (bec01 S))) : z_EvM (d + 1) 73 0 [z_p 4, z_p 9] (z_H S) Z := by
  refine z_go (c := 0) (t := z_t0) rfl rfl rfl z_tk0 [] 100 (fun C K R hC hK hR => ?_)
  refine And.intro ⟨⟨by decide, by decide, by decide⟩, by decide, by decide⟩ ?_
  refine And.intro ⟨⟨by decide, by decide, by decide⟩, by decide, by decide⟩ ?_
  refine And.intro ⟨⟨by decide, by decide, by decide⟩, by decide, by decide⟩ ?_
  refine And.intro ⟨⟨by decide, by decide, by decide⟩, by decide, by decide⟩ ?_
  exact hR _ _ rfl hz
def bec10 (S : z_S) : z_S := z_w (z_w (z_w (z_w (z_u (z_u (z_u (z_u S 4 (S.1 0)) 5 (S.1 1)) 6 (S.1 2)) 7 (S.1 3)) 10 (va_cpy (S.2 5) (S.2 10) 0 0 5)) 11 (va_cpy (S.2 6) (S.2 11) 0 0 5)) 12 (va_cpy (S.2 7) (S.2 12) 0 0 5)) 13 (va_cpy (S.2 8) (S.2 13) 0 0 5)
set_option maxRecDepth 20000 in
theorem s_B_become10 {d : Nat} {S : z_S} {Z : z_Zt} (hz : Z none (z_H (bec10 S))) : z_EvM (d + 1) 73 0 [z_p 9, z_p 4] (z_H S) Z := by
  refine z_go (c := 0) (t := z_t0) rfl rfl rfl z_tk0 [] 100 (fun C K R hC hK hR => ?_)
  refine And.intro ⟨⟨by decide, by decide, by decide⟩, by decide, by decide⟩ ?_
  refine And.intro ⟨⟨by decide, by decide, by decide⟩, by decide, by decide⟩ ?_
  refine And.intro ⟨⟨by decide, by decide, by decide⟩, by decide, by decide⟩ ?_
  refine And.intro ⟨⟨by decide, by decide, by decide⟩, by decide, by decide⟩ ?_
  exact hR _ _ rfl hz
def gec01 (S : z_S) : z_S := z_w (z_w (z_w (z_w (z_u S 12 (S.1 16)) 20 (va_cpy (S.2 27) (S.2 20) 0 0 10)) 21 (va_cpy (S.2 28) (S.2 21) 0 0 10)) 22 (va_cpy (S.2 29) (S.2 22) 0 0 10)) 23 (va_cpy (S.2 30) (S.2 23) 0 0 10)
set_option maxRecDepth 20000 in
theorem s_G_become01 {d : Nat} {S : z_S} {Z : z_Zt} (hz : Z none (z_H (gec01 S))) : z_EvM (d + 1) 73 28 [z_p 19, z_p 26] (z_H S) Z := by
  refine z_go (c := 1) (t := z_t28) rfl rfl rfl z_tk28 [] 100 (fun C K R hC hK hR => ?_)
  refine And.intro ⟨⟨by decide, by decide, by decide⟩, by decide, by decide⟩ ?_
  refine And.intro ⟨⟨by decide, by decide, by decide⟩, by decide, by decide⟩ ?_
  refine And.intro ⟨⟨by decide, by decide, by decide⟩, by decide, by decide⟩ ?_
  refine And.intro ⟨⟨by decide, by decide, by decide⟩, by decide, by decide⟩ ?_
  exact hR _ _ rfl hz
def uec01 (S : z_S) : z_S := z_w (z_w (z_w (z_u S 20 (S.1 21)) 34 (va_cpy (S.2 38) (S.2 34) 0 0 8)) 35 (va_cpy (S.2 39) (S.2 35) 0 0 8)) 36 (va_cpy (S.2 40) (S.2 36) 0 0 8)
set_option maxRecDepth 20000 in
theorem s_U_become01 {d : Nat} {S : z_S} {Z : z_Zt} (hz : Z none (z_H (uec01 S))) : z_EvM (d + 1) 73 35 [z_p 33, z_p 37] (z_H S) Z := by
  refine z_go (c := 2) (t := z_t35) rfl rfl rfl z_tk35 [] 100 (fun C K R hC hK hR => ?_)
  refine And.intro ⟨⟨by decide, by decide, by decide⟩, by decide, by decide⟩ ?_
  refine And.intro ⟨⟨by decide, by decide, by decide⟩, by decide, by decide⟩ ?_
  refine And.intro ⟨⟨by decide, by decide, by decide⟩, by decide, by decide⟩ ?_
  exact hR _ _ rfl hz
def gec10 (S : z_S) : z_S := z_w (z_w (z_w (z_w (z_u S 16 (S.1 12)) 27 (va_cpy (S.2 20) (S.2 27) 0 0 10)) 28 (va_cpy (S.2 21) (S.2 28) 0 0 10)) 29 (va_cpy (S.2 22) (S.2 29) 0 0 10)) 30 (va_cpy (S.2 23) (S.2 30) 0 0 10)
set_option maxRecDepth 20000 in
theorem s_G_become10 {d : Nat} {S : z_S} {Z : z_Zt} (hz : Z none (z_H (gec10 S))) : z_EvM (d + 1) 73 28 [z_p 26, z_p 19] (z_H S) Z := by
  refine z_go (c := 1) (t := z_t28) rfl rfl rfl z_tk28 [] 100 (fun C K R hC hK hR => ?_)
  refine And.intro ⟨⟨by decide, by decide, by decide⟩, by decide, by decide⟩ ?_
  refine And.intro ⟨⟨by decide, by decide, by decide⟩, by decide, by decide⟩ ?_
  refine And.intro ⟨⟨by decide, by decide, by decide⟩, by decide, by decide⟩ ?_
  refine And.intro ⟨⟨by decide, by decide, by decide⟩, by decide, by decide⟩ ?_
  exact hR _ _ rfl hz
def uec10 (S : z_S) : z_S := z_w (z_w (z_w (z_u S 21 (S.1 20)) 38 (va_cpy (S.2 34) (S.2 38) 0 0 8)) 39 (va_cpy (S.2 35) (S.2 39) 0 0 8)) 40 (va_cpy (S.2 36) (S.2 40) 0 0 8)
set_option maxRecDepth 20000 in
theorem s_U_become10 {d : Nat} {S : z_S} {Z : z_Zt} (hz : Z none (z_H (uec10 S))) : z_EvM (d + 1) 73 35 [z_p 37, z_p 33] (z_H S) Z := by
  refine z_go (c := 2) (t := z_t35) rfl rfl rfl z_tk35 [] 100 (fun C K R hC hK hR => ?_)
  refine And.intro ⟨⟨by decide, by decide, by decide⟩, by decide, by decide⟩ ?_
  refine And.intro ⟨⟨by decide, by decide, by decide⟩, by decide, by decide⟩ ?_
  refine And.intro ⟨⟨by decide, by decide, by decide⟩, by decide, by decide⟩ ?_
  exact hR _ _ rfl hz
set_option maxRecDepth 20000 in
theorem l_M_copies61_62 {d : Nat} {S : z_S} {Z : z_Zt} (hz : ∀ f : Nat → Int32, (∀ i, i < 90 → f i = S.2 61 i) → Z none (z_H (z_w S 62 f))) : ∀ m k, k + m = 90 → ∀ f : Nat → Int32, (∀ i, i < k → f i = S.2 61 i) → z_Run (d + 1) 73 (z_own 8) z_m114.2.1 z_m114.2.2.1 none (fun v h' => z_nar z_m114.2.2.2.1 v ∧ Z v h') 2 [(0, z_p 61), (1, z_p 62), (2, .inl (nI k))] [] (z_H (z_w S 62 f)) := by
  intro m
  induction m with
  | zero =>
    intro k hk f hf
    have hk : k = 90 := by omega
    subst hk
    refine z_Run_of z_tk114 [] 60 (fun C K R hC hK hR => ?_)
    refine And.intro (fun q => ?_) (fun q => absurd (by decide) q)
    exact hR _ _ ⟨rfl, hz f hf⟩
  | succ m ih =>
    intro k hk f hf
    have hin : vp_in (nI k) 90 := vp_in_nI (by omega) (by omega)
    have hcl : (nI k).toNatClampNeg = k := nI_clamp (by omega)
    have next := ih (k + 1) (by omega) (upd f (nI k).toNatClampNeg (S.2 61 (nI k).toNatClampNeg)) (fun i hi => by
      rw [hcl]
      by_cases e : i = k
      · subst e
        rw [pk_us]
      · rw [pk_un e]
        exact hf i (by omega))
    rw [nI_succ] at next
    refine z_Run_of z_tk114 [(2, [0, 1, 2])] 60 (fun C K R hC hK hR => ?_)
    refine And.intro (fun q => absurd q (show ¬ (90 : Int32) ≤ nI k from nI_ge (a := k) (b := 90) (by omega) (by omega))) (fun q => ?_)
    refine And.intro hin (And.intro hin ?_)
    exact hK _ _ _ _ next
set_option maxRecDepth 20000 in
theorem s_M_copies61_62 {d : Nat} {S : z_S} {Z : z_Zt} (hz : ∀ f : Nat → Int32, (∀ i, i < 90 → f i = S.2 61 i) → Z none (z_H (z_w S 62 f))) : z_EvM (d + 1) 73 114 [z_p 61, z_p 62] (z_H S) Z := by
  refine z_go (c := 8) (t := z_t114) rfl rfl rfl z_tk114 [(2, [0, 1, 2])] 60 (fun C K R hC hK hR => ?_)
  refine hK _ _ _ _ ?_
  exact l_M_copies61_62 (d := d) hz 90 0 (by omega) (S.2 62) (fun i hi => by omega)
set_option maxRecDepth 20000 in
theorem l_M_copies62_61 {d : Nat} {S : z_S} {Z : z_Zt} (hz : ∀ f : Nat → Int32, (∀ i, i < 90 → f i = S.2 62 i) → Z none (z_H (z_w S 61 f))) : ∀ m k, k + m = 90 → ∀ f : Nat → Int32, (∀ i, i < k → f i = S.2 62 i) → z_Run (d + 1) 73 (z_own 8) z_m114.2.1 z_m114.2.2.1 none (fun v h' => z_nar z_m114.2.2.2.1 v ∧ Z v h') 2 [(0, z_p 62), (1, z_p 61), (2, .inl (nI k))] [] (z_H (z_w S 61 f)) := by
  intro m
  induction m with
  | zero =>
    intro k hk f hf
    have hk : k = 90 := by omega
    subst hk
    refine z_Run_of z_tk114 [] 60 (fun C K R hC hK hR => ?_)
    refine And.intro (fun q => ?_) (fun q => absurd (by decide) q)
    exact hR _ _ ⟨rfl, hz f hf⟩
  | succ m ih =>
    intro k hk f hf
    have hin : vp_in (nI k) 90 := vp_in_nI (by omega) (by omega)
    have hcl : (nI k).toNatClampNeg = k := nI_clamp (by omega)
    have next := ih (k + 1) (by omega) (upd f (nI k).toNatClampNeg (S.2 62 (nI k).toNatClampNeg)) (fun i hi => by
      rw [hcl]
      by_cases e : i = k
      · subst e
        rw [pk_us]
      · rw [pk_un e]
        exact hf i (by omega))
    rw [nI_succ] at next
    refine z_Run_of z_tk114 [(2, [0, 1, 2])] 60 (fun C K R hC hK hR => ?_)
    refine And.intro (fun q => absurd q (show ¬ (90 : Int32) ≤ nI k from nI_ge (a := k) (b := 90) (by omega) (by omega))) (fun q => ?_)
    refine And.intro hin (And.intro hin ?_)
    exact hK _ _ _ _ next
set_option maxRecDepth 20000 in
theorem s_M_copies62_61 {d : Nat} {S : z_S} {Z : z_Zt} (hz : ∀ f : Nat → Int32, (∀ i, i < 90 → f i = S.2 62 i) → Z none (z_H (z_w S 61 f))) : z_EvM (d + 1) 73 114 [z_p 62, z_p 61] (z_H S) Z := by
  refine z_go (c := 8) (t := z_t114) rfl rfl rfl z_tk114 [(2, [0, 1, 2])] 60 (fun C K R hC hK hR => ?_)
  refine hK _ _ _ _ ?_
  exact l_M_copies62_61 (d := d) hz 90 0 (by omega) (S.2 61) (fun i hi => by omega)
set_option maxRecDepth 20000 in
theorem l_M_copies61_63 {d : Nat} {S : z_S} {Z : z_Zt} (hz : ∀ f : Nat → Int32, (∀ i, i < 90 → f i = S.2 61 i) → Z none (z_H (z_w S 63 f))) : ∀ m k, k + m = 90 → ∀ f : Nat → Int32, (∀ i, i < k → f i = S.2 61 i) → z_Run (d + 1) 73 (z_own 8) z_m114.2.1 z_m114.2.2.1 none (fun v h' => z_nar z_m114.2.2.2.1 v ∧ Z v h') 2 [(0, z_p 61), (1, z_p 63), (2, .inl (nI k))] [] (z_H (z_w S 63 f)) := by
  intro m
  induction m with
  | zero =>
    intro k hk f hf
    have hk : k = 90 := by omega
    subst hk
    refine z_Run_of z_tk114 [] 60 (fun C K R hC hK hR => ?_)
    refine And.intro (fun q => ?_) (fun q => absurd (by decide) q)
    exact hR _ _ ⟨rfl, hz f hf⟩
  | succ m ih =>
    intro k hk f hf
    have hin : vp_in (nI k) 90 := vp_in_nI (by omega) (by omega)
    have hcl : (nI k).toNatClampNeg = k := nI_clamp (by omega)
    have next := ih (k + 1) (by omega) (upd f (nI k).toNatClampNeg (S.2 61 (nI k).toNatClampNeg)) (fun i hi => by
      rw [hcl]
      by_cases e : i = k
      · subst e
        rw [pk_us]
      · rw [pk_un e]
        exact hf i (by omega))
    rw [nI_succ] at next
    refine z_Run_of z_tk114 [(2, [0, 1, 2])] 60 (fun C K R hC hK hR => ?_)
    refine And.intro (fun q => absurd q (show ¬ (90 : Int32) ≤ nI k from nI_ge (a := k) (b := 90) (by omega) (by omega))) (fun q => ?_)
    refine And.intro hin (And.intro hin ?_)
    exact hK _ _ _ _ next
set_option maxRecDepth 20000 in
theorem s_M_copies61_63 {d : Nat} {S : z_S} {Z : z_Zt} (hz : ∀ f : Nat → Int32, (∀ i, i < 90 → f i = S.2 61 i) → Z none (z_H (z_w S 63 f))) : z_EvM (d + 1) 73 114 [z_p 61, z_p 63] (z_H S) Z := by
  refine z_go (c := 8) (t := z_t114) rfl rfl rfl z_tk114 [(2, [0, 1, 2])] 60 (fun C K R hC hK hR => ?_)
  refine hK _ _ _ _ ?_
  exact l_M_copies61_63 (d := d) hz 90 0 (by omega) (S.2 63) (fun i hi => by omega)
set_option maxRecDepth 20000 in
theorem l_M_copies63_61 {d : Nat} {S : z_S} {Z : z_Zt} (hz : ∀ f : Nat → Int32, (∀ i, i < 90 → f i = S.2 63 i) → Z none (z_H (z_w S 61 f))) : ∀ m k, k + m = 90 → ∀ f : Nat → Int32, (∀ i, i < k → f i = S.2 63 i) → z_Run (d + 1) 73 (z_own 8) z_m114.2.1 z_m114.2.2.1 none (fun v h' => z_nar z_m114.2.2.2.1 v ∧ Z v h') 2 [(0, z_p 63), (1, z_p 61), (2, .inl (nI k))] [] (z_H (z_w S 61 f)) := by
  intro m
  induction m with
  | zero =>
    intro k hk f hf
    have hk : k = 90 := by omega
    subst hk
    refine z_Run_of z_tk114 [] 60 (fun C K R hC hK hR => ?_)
    refine And.intro (fun q => ?_) (fun q => absurd (by decide) q)
    exact hR _ _ ⟨rfl, hz f hf⟩
  | succ m ih =>
    intro k hk f hf
    have hin : vp_in (nI k) 90 := vp_in_nI (by omega) (by omega)
    have hcl : (nI k).toNatClampNeg = k := nI_clamp (by omega)
    have next := ih (k + 1) (by omega) (upd f (nI k).toNatClampNeg (S.2 63 (nI k).toNatClampNeg)) (fun i hi => by
      rw [hcl]
      by_cases e : i = k
      · subst e
        rw [pk_us]
      · rw [pk_un e]
        exact hf i (by omega))
    rw [nI_succ] at next
    refine z_Run_of z_tk114 [(2, [0, 1, 2])] 60 (fun C K R hC hK hR => ?_)
    refine And.intro (fun q => absurd q (show ¬ (90 : Int32) ≤ nI k from nI_ge (a := k) (b := 90) (by omega) (by omega))) (fun q => ?_)
    refine And.intro hin (And.intro hin ?_)
    exact hK _ _ _ _ next
set_option maxRecDepth 20000 in
theorem s_M_copies63_61 {d : Nat} {S : z_S} {Z : z_Zt} (hz : ∀ f : Nat → Int32, (∀ i, i < 90 → f i = S.2 63 i) → Z none (z_H (z_w S 61 f))) : z_EvM (d + 1) 73 114 [z_p 63, z_p 61] (z_H S) Z := by
  refine z_go (c := 8) (t := z_t114) rfl rfl rfl z_tk114 [(2, [0, 1, 2])] 60 (fun C K R hC hK hR => ?_)
  refine hK _ _ _ _ ?_
  exact l_M_copies63_61 (d := d) hz 90 0 (by omega) (S.2 61) (fun i hi => by omega)
set_option maxRecDepth 20000 in
theorem l_M_copies61_71 {d : Nat} {S : z_S} {Z : z_Zt} (hz : ∀ f : Nat → Int32, (∀ i, i < 90 → f i = S.2 61 i) → Z none (z_H (z_w S 71 f))) : ∀ m k, k + m = 90 → ∀ f : Nat → Int32, (∀ i, i < k → f i = S.2 61 i) → z_Run (d + 1) 73 (z_own 8) z_m114.2.1 z_m114.2.2.1 none (fun v h' => z_nar z_m114.2.2.2.1 v ∧ Z v h') 2 [(0, z_p 61), (1, z_p 71), (2, .inl (nI k))] [] (z_H (z_w S 71 f)) := by
  intro m
  induction m with
  | zero =>
    intro k hk f hf
    have hk : k = 90 := by omega
    subst hk
    refine z_Run_of z_tk114 [] 60 (fun C K R hC hK hR => ?_)
    refine And.intro (fun q => ?_) (fun q => absurd (by decide) q)
    exact hR _ _ ⟨rfl, hz f hf⟩
  | succ m ih =>
    intro k hk f hf
    have hin : vp_in (nI k) 90 := vp_in_nI (by omega) (by omega)
    have hcl : (nI k).toNatClampNeg = k := nI_clamp (by omega)
    have next := ih (k + 1) (by omega) (upd f (nI k).toNatClampNeg (S.2 61 (nI k).toNatClampNeg)) (fun i hi => by
      rw [hcl]
      by_cases e : i = k
      · subst e
        rw [pk_us]
      · rw [pk_un e]
        exact hf i (by omega))
    rw [nI_succ] at next
    refine z_Run_of z_tk114 [(2, [0, 1, 2])] 60 (fun C K R hC hK hR => ?_)
    refine And.intro (fun q => absurd q (show ¬ (90 : Int32) ≤ nI k from nI_ge (a := k) (b := 90) (by omega) (by omega))) (fun q => ?_)
    refine And.intro hin (And.intro hin ?_)
    exact hK _ _ _ _ next
set_option maxRecDepth 20000 in
theorem s_M_copies61_71 {d : Nat} {S : z_S} {Z : z_Zt} (hz : ∀ f : Nat → Int32, (∀ i, i < 90 → f i = S.2 61 i) → Z none (z_H (z_w S 71 f))) : z_EvM (d + 1) 73 114 [z_p 61, z_p 71] (z_H S) Z := by
  refine z_go (c := 8) (t := z_t114) rfl rfl rfl z_tk114 [(2, [0, 1, 2])] 60 (fun C K R hC hK hR => ?_)
  refine hK _ _ _ _ ?_
  exact l_M_copies61_71 (d := d) hz 90 0 (by omega) (S.2 71) (fun i hi => by omega)
set_option maxRecDepth 20000 in
theorem l_M_copies71_61 {d : Nat} {S : z_S} {Z : z_Zt} (hz : ∀ f : Nat → Int32, (∀ i, i < 90 → f i = S.2 71 i) → Z none (z_H (z_w S 61 f))) : ∀ m k, k + m = 90 → ∀ f : Nat → Int32, (∀ i, i < k → f i = S.2 71 i) → z_Run (d + 1) 73 (z_own 8) z_m114.2.1 z_m114.2.2.1 none (fun v h' => z_nar z_m114.2.2.2.1 v ∧ Z v h') 2 [(0, z_p 71), (1, z_p 61), (2, .inl (nI k))] [] (z_H (z_w S 61 f)) := by
  intro m
  induction m with
  | zero =>
    intro k hk f hf
    have hk : k = 90 := by omega
    subst hk
    refine z_Run_of z_tk114 [] 60 (fun C K R hC hK hR => ?_)
    refine And.intro (fun q => ?_) (fun q => absurd (by decide) q)
    exact hR _ _ ⟨rfl, hz f hf⟩
  | succ m ih =>
    intro k hk f hf
    have hin : vp_in (nI k) 90 := vp_in_nI (by omega) (by omega)
    have hcl : (nI k).toNatClampNeg = k := nI_clamp (by omega)
    have next := ih (k + 1) (by omega) (upd f (nI k).toNatClampNeg (S.2 71 (nI k).toNatClampNeg)) (fun i hi => by
      rw [hcl]
      by_cases e : i = k
      · subst e
        rw [pk_us]
      · rw [pk_un e]
        exact hf i (by omega))
    rw [nI_succ] at next
    refine z_Run_of z_tk114 [(2, [0, 1, 2])] 60 (fun C K R hC hK hR => ?_)
    refine And.intro (fun q => absurd q (show ¬ (90 : Int32) ≤ nI k from nI_ge (a := k) (b := 90) (by omega) (by omega))) (fun q => ?_)
    refine And.intro hin (And.intro hin ?_)
    exact hK _ _ _ _ next
set_option maxRecDepth 20000 in
theorem s_M_copies71_61 {d : Nat} {S : z_S} {Z : z_Zt} (hz : ∀ f : Nat → Int32, (∀ i, i < 90 → f i = S.2 71 i) → Z none (z_H (z_w S 61 f))) : z_EvM (d + 1) 73 114 [z_p 71, z_p 61] (z_H S) Z := by
  refine z_go (c := 8) (t := z_t114) rfl rfl rfl z_tk114 [(2, [0, 1, 2])] 60 (fun C K R hC hK hR => ?_)
  refine hK _ _ _ _ ?_
  exact l_M_copies71_61 (d := d) hz 90 0 (by omega) (S.2 61) (fun i hi => by omega)
/-- two tellings of a board, its goes and guesses agree -/
def z_dq (D D' : z_S) : Prop := (∀ i, i < 6 → D'.1 i = D.1 i) ∧ (∀ r, r < 4 → ∀ k, k < 5 → D'.2 r k = D.2 r k) ∧ (∀ r, r < 4 → ∀ k, k < 10 → D'.2 (4 + r) k = D.2 (4 + r) k) ∧ (∀ r, r < 3 → ∀ k, k < 8 → D'.2 (8 + r) k = D.2 (8 + r) k)
theorem dq_Rl {s s' : Nat → Int32} {D D' : z_S} (h : z_Rl s D) (hs : ∀ i, i < 90 → s' i = s i) (hq : z_dq D D') : z_Rl s' D' := by
  obtain ⟨q1, q2, q3, q4⟩ := hq
  refine ⟨fun i hi => ?_, fun k hk j hj => ?_, fun k hk j hj => ?_, fun k hk j hj => ?_⟩
  · rw [hs i (by omega), q1 i hi, h.1 i hi]
  · rw [hs _ (by omega), q2 j hj k hk, h.2.1 k hk j hj]
  · rw [hs _ (by omega), q3 j hj k hk, h.2.2.1 k hk j hj]
  · rw [hs _ (by omega), q4 j hj k hk, h.2.2.2 k hk j hj]
theorem dq_ok {D D' : z_S} {n g u : Nat} (h : z_ok D n g u) (hq : z_dq D D') : z_ok D' n g u := by
  obtain ⟨⟨a1, a2⟩, ⟨b1, b2⟩, ⟨c1, c2⟩, d1, e1, f1, g1, h1, i1, j1⟩ := h
  obtain ⟨q1, q2, q3, q4⟩ := hq
  refine ⟨⟨a1, by rw [q1 3 (by omega)]; exact a2⟩, ⟨b1, by rw [q1 4 (by omega)]; exact b2⟩, ⟨c1, by rw [q1 5 (by omega)]; exact c2⟩, by rw [q1 0 (by omega)]; exact d1, by rw [q1 1 (by omega)]; exact e1, by rw [q1 2 (by omega)]; exact f1, fun k hk => ?_, fun k hk => ?_, fun i j hi hj => ?_, fun i hi => ?_⟩
  · rw [q2 3 (by omega) k (by omega)]
    exact g1 k hk
  · rw [q2 1 (by omega) k (by omega)]
    exact h1 k hk
  · rw [q2 3 (by omega) i (by omega), q2 3 (by omega) j (by omega)]
    exact i1 i j hi hj
  · rw [q4 0 (by omega) i (by omega), q4 1 (by omega) i (by omega)]
    exact j1 i hi
