/-! the text of the class: letters, numbers, signs -/
def gF (le : Nat → Int32) (t p : Nat) : Int32 := if p < t then le p else -1
abbrev isD (c : Int32) : Prop := 48 ≤ c ∧ c ≤ 57
def dgF (c : Int32) : Int32 := if isD c then c - 48 else -2
def kdF (c : Int32) : Int32 := if c = 99 then 0 else if c = 104 then 1 else if c = 105 then 2 else if c = 116 then 3 else if c = 98 then 4 else if c = 110 then 5 else -2
def sdF (c : Int32) : Int32 := if c = 108 then -1 else if c = 114 then 1 else -2
theorem g_lt {le : Nat → Int32} {t p : Nat} (h : ¬ gF le t p = -1) : p < t := by
  unfold gF at h
  by_cases q : p < t
  · exact q
  · rw [if_neg q] at h
    exact absurd rfl h
theorem isD_lt {le : Nat → Int32} {t p : Nat} (h : isD (gF le t p)) : p < t := g_lt (fun z => by rw [z] at h; exact absurd h.1 (by decide))
theorem dgF_y {c : Int32} (h : isD c) : dgF c = c - 48 ∧ ¬ c - 48 = -2 := by
  refine ⟨if_pos h, ?_⟩
  have := h.1
  grind
theorem dgF_n {c : Int32} (h : ¬ isD c) : dgF c = -2 := if_neg h
set_option maxRecDepth 20000 in
theorem s_T_digitOf {d nh : Nat} {h : List z_C} {Z : z_Zt} {c : Int32} (hz : Z (some (.inl (dgF c))) h) : z_EvM (d + 1) nh 60 [.inl c] h Z := by
  unfold dgF at hz
  refine z_go (c := 6) (t := z_t60) rfl rfl rfl z_tk60 [] 100 (fun C K R hC hK hR => ?_)
  refine And.intro (fun e => ?_) (fun e => And.intro (fun e2 => ?_) (fun e2 => ?_))
  · rw [if_neg (fun z => absurd z.1 (by have := e; clear hz; grind))] at hz
    exact hR _ _ ⟨_, rfl, rfl⟩ hz
  · rw [if_neg (fun z => absurd z.2 (by have := e2; clear hz; grind))] at hz
    exact hR _ _ ⟨_, rfl, rfl⟩ hz
  · rw [if_pos ⟨nlt_ge e, nlt_ge e2⟩] at hz
    exact hR _ _ ⟨_, rfl, rfl⟩ hz
set_option maxRecDepth 20000 in
theorem s_T_sideOfLetter {d nh : Nat} {h : List z_C} {Z : z_Zt} {c : Int32} (hz : Z (some (.inl (sdF c))) h) : z_EvM (d + 1) nh 62 [.inl c] h Z := by
  unfold sdF at hz
  refine z_go (c := 6) (t := z_t62) rfl rfl rfl z_tk62 [] 100 (fun C K R hC hK hR => ?_)
  refine And.intro (fun e => ?_) (fun e => ?_)
  · rw [if_neg e] at hz
    refine And.intro (fun e2 => ?_) (fun e2 => ?_)
    · rw [if_neg e2] at hz
      exact hR _ _ ⟨_, rfl, rfl⟩ hz
    · rw [if_pos e2] at hz
      exact hR _ _ ⟨_, rfl, rfl⟩ hz
  · rw [if_pos e] at hz
    exact hR _ _ ⟨_, rfl, rfl⟩ hz
set_option maxRecDepth 20000 in
theorem s_T_kindOf {d nh : Nat} {h : List z_C} {Z : z_Zt} {c : Int32} (hz : ∀ r, r = kdF c → Z (some (.inl r)) h) : z_EvM (d + 1) nh 61 [.inl c] h Z := by
  refine z_go (c := 6) (t := z_t61) rfl rfl rfl z_tk61 [] 100 (fun C K R hC hK hR => ?_)
  repeat' (first | refine And.intro (fun _ => ?_) (fun _ => ?_) | refine And.intro (vp_in_iff.mpr (by decide)) ?_ | refine And.intro (by decide : ¬ (_ : Int32) = 0) ?_)
  all_goals refine hR _ _ ⟨_, rfl, rfl⟩ (hz _ ?_)
  all_goals clear hz hR hC hK
  all_goals (first | (subst_vars; rfl) | (unfold kdF; grind))
set_option maxRecDepth 20000 in
theorem s_M_kindOf {d nh : Nat} {h : List z_C} {Z : z_Zt} {c : Int32} (hz : ∀ r, r = (if kdF c = -2 then -9 else kdF c) → Z (some (.inl r)) h) : z_EvM (d + 1) nh 124 [.inl c] h Z := by
  refine z_go (c := 8) (t := z_t124) rfl rfl rfl z_tk124 [] 100 (fun C K R hC hK hR => ?_)
  repeat' (first | refine And.intro (fun _ => ?_) (fun _ => ?_) | refine And.intro (vp_in_iff.mpr (by decide)) ?_ | refine And.intro (by decide : ¬ (_ : Int32) = 0) ?_)
  all_goals refine hR _ _ ⟨_, rfl, rfl⟩ (hz _ ?_)
  all_goals clear hz hR hC hK
  all_goals (first | (subst_vars; rfl) | (unfold kdF; grind))
set_option maxRecDepth 20000 in
theorem s_T_here {d t p : Nat} {S : z_S} {Z : z_Zt} (ht : S.1 34 = nI t) (ht8 : t ≤ 80) (hp : S.1 35 = nI p) (hp8 : p < 1000) (hz : Z (some (.inl (gF (S.2 2) t p))) (z_H S)) : z_EvM (d + 1) 73 56 [z_p 1] (z_H S) Z := by
  unfold gF at hz
  refine z_go (c := 6) (t := z_t56) rfl rfl rfl z_tk56 [] 100 (fun C K R hC hK hR => ?_)
  refine And.intro (fun e => absurd (show S.1 35 < 0 from e) (by rw [hp]; exact nI_pos (by omega))) (fun _ => ?_)
  refine And.intro (fun e => ?_) (fun e => ?_)
  · have e : S.1 34 ≤ S.1 35 := e
    rw [ht, hp] at e
    have := (nI_leI (by omega) (by omega)).mp e
    rw [if_neg (by omega)] at hz
    exact hR _ _ ⟨_, rfl, rfl⟩ hz
  · have e : ¬ S.1 34 ≤ S.1 35 := e
    rw [ht, hp] at e
    have h2 : p < t := by
      by_cases q : p < t
      · exact q
      · exact absurd (nI_le (by omega) (by omega)) e
    rw [if_pos h2] at hz
    refine And.intro (show vp_in (S.1 35) 80 by rw [hp]; exact vp_in_nI (by omega) (by omega)) ?_
    refine hR _ _ ⟨_, rfl, rfl⟩ ?_
    show Z (some (.inl (S.2 2 (S.1 35).toNatClampNeg))) (z_H S)
    rw [hp, nI_clamp (by omega)]
    exact hz
set_option maxRecDepth 20000 in
theorem s_M_sign {d t p : Nat} {S : z_S} {Z : z_Zt} (ht : S.1 40 = nI t) (ht8 : t ≤ 80) (hp : S.1 41 = nI p) (hp8 : p < 1000) (hz : Z (some (.inl (gF (S.2 64) t p))) (z_H S)) : z_EvM (d + 1) 73 121 [z_p 59] (z_H S) Z := by
  unfold gF at hz
  refine z_go (c := 8) (t := z_t121) rfl rfl rfl z_tk121 [] 100 (fun C K R hC hK hR => ?_)
  refine And.intro (fun e => ?_) (fun e => ?_)
  · have e : S.1 40 ≤ S.1 41 := e
    rw [ht, hp] at e
    have := (nI_leI (by omega) (by omega)).mp e
    rw [if_neg (by omega)] at hz
    exact hR _ _ ⟨_, rfl, rfl⟩ hz
  · have e : ¬ S.1 40 ≤ S.1 41 := e
    rw [ht, hp] at e
    have h2 : p < t := by
      by_cases q : p < t
      · exact q
      · exact absurd (nI_le (by omega) (by omega)) e
    rw [if_pos h2] at hz
    refine And.intro (show vp_in (S.1 41) 80 by rw [hp]; exact vp_in_nI (by omega) (by omega)) ?_
    refine hR _ _ ⟨_, rfl, rfl⟩ ?_
    show Z (some (.inl (S.2 64 (S.1 41).toNatClampNeg))) (z_H S)
    rw [hp, nI_clamp (by omega)]
    exact hz
/-- the text's place, verb and told -/
def tS (S : z_S) (pl ve : Int32) (f : Nat → Int32) : z_S := z_w (z_u (z_u S 35 pl) 36 ve) 3 f
theorem tS_pl {S : z_S} {pl ve x : Int32} {f : Nat → Int32} : z_H (z_u (tS S pl ve f) 35 x) = z_H (tS S x ve f) := rfl
def nmF (g : Nat → Int32) (p : Nat) : Int32 := if isD (g p) then (if isD (g (p + 1)) then 10 * (g p - 48) + (g (p + 1) - 48) else g p - 48) else -2
def nmN (g : Nat → Int32) (p : Nat) : Nat := if isD (g p) then (if isD (g (p + 1)) then p + 2 else p + 1) else p
section
variable {d t p : Nat} {S : z_S} {Z : z_Zt} {ve : Int32} {f : Nat → Int32}
set_option maxRecDepth 20000 in
theorem s_T_readNumber (ht : S.1 34 = nI t) (ht8 : t ≤ 80) (hp8 : p ≤ t) (hz : Z (some (.inl (nmF (gF (S.2 2) t) p))) (z_H (tS S (nI (nmN (gF (S.2 2) t) p)) ve f))) : z_EvM (d + 2) 73 57 [z_p 1] (z_H (tS S (nI p) ve f)) Z := by
  have n2 : ∀ fs : Int32, z_Run (d + 2) 73 (z_own 6) z_m57.2.1 z_m57.2.2.1 none (fun v h' => z_nar z_m57.2.2.2.1 v ∧ Z v h') 27 [(0, z_p 1), (1, .inl fs)] [] (z_H (tS S (nI (p + 1)) ve f)) → z_Run (d + 2) 73 (z_own 6) z_m57.2.1 z_m57.2.2.1 none (fun v h' => z_nar z_m57.2.2.2.1 v ∧ Z v h') 17 [(0, z_p 1), (1, .inl fs)] [] (z_H (tS S (nI p) ve f)) := by
    intro fs h
    rw [nI_succ, ← tS_pl (pl := nI p)] at h
    refine z_Run_of z_tk57 [(27, [0, 1])] 60 (fun C K R hC hK hR => ?_)
    exact hK _ _ _ _ h
  have n3 : ∀ v, v = nmF (gF (S.2 2) t) p → nmN (gF (S.2 2) t) p = p + 2 → ∀ a b, v = 10 * a + b → z_Run (d + 2) 73 (z_own 6) z_m57.2.1 z_m57.2.2.1 none (fun v h' => z_nar z_m57.2.2.2.1 v ∧ Z v h') 43 [(0, z_p 1), (1, .inl a), (2, .inl b)] [] (z_H (tS S (nI (p + 1)) ve f)) := by
    intro v h1 h2 a b h3
    rw [← h1, h2, h3, nI_succ (p + 1), ← tS_pl (pl := nI (p + 1))] at hz
    refine z_Run_of z_tk57 [] 60 (fun C K R hC hK hR => ?_)
    exact hR _ _ ⟨⟨_, rfl, rfl⟩, hz⟩
  refine z_go (c := 6) (t := z_t57) rfl rfl rfl z_tk57 [(17, [0, 1])] 60 (fun C K R hC hK hR => ?_)
  conv => whnf
  refine hC _ _ _ _ (s_T_here (S := tS S (nI p) ve f) (p := p) ht ht8 rfl (by omega) ?_)
  conv => whnf
  refine hC _ _ _ _ (s_T_digitOf (h := z_H (tS S (nI p) ve f)) ?_)
  by_cases q : isD (gF (S.2 2) t p)
  · have hlt := isD_lt q
    obtain ⟨y1, y2⟩ := dgF_y q
    refine And.intro (fun _ => ?_) (fun e => absurd (y1.symm.trans e) y2)
    refine hK _ _ _ _ (n2 _ ?_)
    refine z_Run_of z_tk57 [(43, [0, 1, 2])] 60 (fun C K R hC hK hR => ?_)
    conv => whnf
    refine hC _ _ _ _ (s_T_here (S := tS S (nI (p + 1)) ve f) (p := p + 1) ht ht8 rfl (by omega) ?_)
    conv => whnf
    refine hC _ _ _ _ (s_T_digitOf (h := z_H (tS S (nI (p + 1)) ve f)) ?_)
    by_cases q2 : isD (gF (S.2 2) t (p + 1))
    · obtain ⟨w1, w2⟩ := dgF_y q2
      refine And.intro (fun _ => ?_) (fun e => absurd (w1.symm.trans e) w2)
      refine hK _ _ _ _ (n3 _ rfl ?_ _ _ ?_)
      · unfold nmN; rw [if_pos q, if_pos q2]
      · show nmF (gF (S.2 2) t) p = 10 * dgF (gF (S.2 2) t p) + dgF (gF (S.2 2) t (p + 1))
        rw [y1, w1]
        unfold nmF
        rw [if_pos q, if_pos q2]
    · have w1 := dgF_n q2
      refine And.intro (fun e => absurd w1 e) (fun _ => ?_)
      unfold nmF nmN at hz
      rw [if_pos q, if_pos q, if_neg q2, if_neg q2, ← y1] at hz
      exact hR _ _ ⟨⟨_, rfl, rfl⟩, hz⟩
  · have y1 := dgF_n q
    refine And.intro (fun e => absurd y1 e) (fun _ => ?_)
    unfold nmF nmN at hz
    rw [if_neg q, if_neg q] at hz
    exact hR _ _ ⟨_, rfl, rfl⟩ hz
end
