/-! ranges, digits, guesses; the class's turns -/
theorem z_rng {x : Int32} (lo m : Int32) {n : Nat} (hm : m.toInt = n) (h0 : -1000000 ≤ lo) (h1 : lo ≤ x) (h2 : x - lo < m) (h3 : x ≤ 1000000) : ∃ k : Fin n, x = lo + nI k.val := by
  obtain ⟨j, hj, e⟩ := nI_of (x := x - lo) (by grind)
  have h4 := Int32.lt_iff_toInt_lt.mp h2
  rw [e, nI_toInt hj, hm] at h4
  exact ⟨⟨j, by omega⟩, by show x = lo + nI j; grind⟩
theorem sgn_all : ∀ k : Fin 41, ((-20 + nI k.val) >>> ((31 : Int32) &&& 31)) ||| ((-(-20 + nI k.val)).toUInt32 >>> ((31 : Int32).toUInt32 &&& Int32.toUInt32 31)).toInt32 = (if (-20 + nI k.val) < 0 then -1 else if (-20 + nI k.val) = 0 then 0 else 1) := by decide +kernel
theorem s_I_signum {d nh : Nat} {h : List z_C} {Z : z_Zt} {x : Int32} (h1 : -20 ≤ x) (h2 : x ≤ 20) (hz : ∀ r : Int32, r = (if x < 0 then -1 else if x = 0 then 0 else 1) → Z (some (.inl r)) h) : z_EvM (d + 1) nh 186 [.inl x] h Z := by
  refine z_go (c := 10) (t := z_t186) rfl rfl rfl z_tk186 [] 100 (fun C K R hC hK hR => ?_)
  conv => whnf
  refine hR _ _ ⟨_, rfl, rfl⟩ (hz _ ?_)
  obtain ⟨k, rfl⟩ := z_rng (x := x) (-20) 41 (n := 41) rfl (by decide) h1 (by grind) (by grind)
  exact sgn_all k
theorem s_B_hangerTurn {d nh : Nat} {h : List z_C} {Z : z_Zt} {w a : Int32} (hz : ∀ r : Int32, r = hangF w a → Z (some (.inl r)) h) : z_EvM (d + 1) nh 21 [.inl w, .inl a] h Z := by
  refine z_go (c := 0) (t := z_t21) rfl rfl rfl z_tk21 [] 100 (fun C K R hC hK hR => ?_)
  repeat' (first | refine And.intro (fun _ => ?_) (fun _ => ?_) | refine And.intro (vp_in_iff.mpr (by decide)) ?_ | refine And.intro (by decide : ¬ (_ : Int32) = 0) ?_)
  all_goals exact hR _ _ ⟨_, rfl, rfl⟩ (hz _ (by grind [hangF]))
theorem s_B_inTurn {d nh : Nat} {h : List z_C} {Z : z_Zt} {w a : Int32} (h1 : -20 ≤ a) (h2 : a ≤ 20) (hz : ∀ r : Int32, r = innF w a → Z (some (.inl r)) h) : z_EvM (d + 2) nh 22 [.inl w, .inl a] h Z := by
  refine z_go (c := 0) (t := z_t22) rfl rfl rfl z_tk22 [] 100 (fun C K R hC hK hR => ?_)
  conv => whnf
  refine hC _ _ _ _ (s_I_signum h1 h2 (fun r hr => ?_))
  exact hR _ _ ⟨_, rfl, rfl⟩ (hz _ (by grind [innF]))
theorem s_B_turnOf {d nh : Nat} {h : List z_C} {Z : z_Zt} {kd w a : Int32} (h1 : -20 ≤ a) (h2 : a ≤ 20) (hz : ∀ r : Int32, r = turnF kd w a → Z (some (.inl r)) h) : z_EvM (d + 3) nh 20 [.inl kd, .inl w, .inl a] h Z := by
  refine z_go (c := 0) (t := z_t20) rfl rfl rfl z_tk20 [] 100 (fun C K R hC hK hR => ?_)
  conv => whnf
  refine ⟨fun e0 => ?_, fun e0 => ?_⟩
  · exact hR _ _ ⟨_, rfl, rfl⟩ (hz _ (by grind [turnF]))
  · conv => whnf
    refine ⟨fun e1 => ?_, fun e1 => ?_⟩
    · conv => whnf
      refine hC _ _ _ _ (s_B_hangerTurn (fun r hr => ?_))
      exact hR _ _ ⟨_, rfl, rfl⟩ (hz _ (by grind [turnF]))
    · conv => whnf
      refine ⟨fun e2 => ?_, fun e2 => ?_⟩
      · conv => whnf
        refine hC _ _ _ _ (s_B_inTurn h1 h2 (fun r hr => ?_))
        exact hR _ _ ⟨_, rfl, rfl⟩ (hz _ (by grind [turnF]))
      · conv => whnf
        refine ⟨fun e3 => ?_, fun e3 => ?_⟩
        · conv => whnf
          refine hC _ _ _ _ (s_B_hangerTurn (fun r hr => ?_))
          exact hR _ _ ⟨_, rfl, rfl⟩ (hz _ (by grind [turnF]))
        · conv => whnf
          refine ⟨fun e4 => ?_, fun e4 => ?_⟩
          · conv => whnf
            refine hC _ _ _ _ (s_B_inTurn h1 h2 (fun r hr => ?_))
            conv => whnf
            refine ⟨by decide, ?_⟩
            exact hR _ _ ⟨_, rfl, rfl⟩ (hz _ (by grind [turnF]))
          · exact hR _ _ ⟨_, rfl, rfl⟩ (hz _ (by grind [turnF]))
theorem tb4 {kd w a : Int32} (h1 : 0 ≤ a) (h2 : a ≤ 0) (hk : kd = 4) : w * 0 / 2 = turnF kd w a := by
  have ha : a = 0 := by grind
  subst ha
  subst hk
  rfl
theorem s_M_turnBy {d : Nat} {S : z_S} {Z : z_Zt} {kd w a : Int32} (hz : ∀ r : Int32, r = turnF kd w a → Z (some (.inl r)) (z_H S)) : z_EvM (d + 1) 73 138 [z_p 59, .inl kd, .inl w, .inl a] (z_H S) Z := by
  refine z_go (c := 8) (t := z_t138) rfl rfl rfl z_tk138 [] 100 (fun C K R hC hK hR => ?_)
  repeat' (first | refine And.intro (fun _ => ?_) (fun _ => ?_) | refine And.intro (vp_in_iff.mpr (by decide)) ?_ | refine And.intro (by decide : ¬ (_ : Int32) = 0) ?_)
  all_goals refine hR _ _ ⟨_, rfl, rfl⟩ (hz _ ?_)
  all_goals clear hz hR hC hK
  all_goals first | (grind [turnF, hangF, innF]; done) | (exact tb4 (by assumption) (by assumption) (by assumption))
theorem s_M_turnOf {d : Nat} {S : z_S} {Z : z_Zt} {c x : Int32} (h0 : vp_in (6 + 4 * c + 0) 90) (h1 : vp_in (6 + 4 * c + 1) 90) (hz : ∀ r : Int32, r = turnF (S.2 61 (6 + 4 * c + 0).toNatClampNeg) (S.2 61 (6 + 4 * c + 1).toNatClampNeg) (armF (S.2 61 2) x) → Z (some (.inl r)) (z_H S)) : z_EvM (d + 2) 73 139 [z_p 59, .inl c, .inl x] (z_H S) Z := by
  refine z_go (c := 8) (t := z_t139) rfl rfl rfl z_tk139 [] 100 (fun C K R hC hK hR => ?_)
  conv => whnf
  refine hC _ _ _ _ (s_M_kid h0 ?_)
  conv => whnf
  refine hC _ _ _ _ (s_M_kid h1 ?_)
  conv => whnf
  refine hC _ _ _ _ (s_M_armOf (fun r hr => ?_))
  conv => whnf
  refine hC _ _ _ _ (s_M_turnBy (fun r2 hr2 => ?_))
  exact hR _ _ ⟨_, rfl, rfl⟩ (hz _ (by rw [hr2, hr]))
/-! guesses -/
def cmpF (x y : Int32) : Int32 := if y < x then 0 else if x = y then 1 else 2
def guessF (rule l r : Int32) : Int32 := if rule = 0 then cmpF (l / 10) (r / 10) else if rule = 1 then (if l / 10 = r / 10 then cmpF (l - l / 10 * 10) (r - r / 10 * 10) else cmpF (l / 10) (r / 10)) else if rule = 2 then cmpF (l / 10 + (l - l / 10 * 10)) (r / 10 + (r - r / 10 * 10)) else if rule = 3 then cmpF (l / 10 * (l - l / 10 * 10)) (r / 10 * (r - r / 10 * 10)) else cmpF (l - l / 10 * 10) (r - r / 10 * 10)
def digF (v : Int32) : Prop := 11 ≤ v ∧ v ≤ 99 ∧ 0 < v - v / 10 * 10
theorem dig_all : ∀ k : Fin 89, let v := 11 + nI k.val; 1 ≤ v / 10 ∧ v / 10 ≤ 9 ∧ 0 ≤ v - v / 10 * 10 ∧ v - v / 10 * 10 ≤ 9 := by decide +kernel
theorem dig_in {v : Int32} (h1 : 11 ≤ v) (h2 : v ≤ 99) : 1 ≤ v / 10 ∧ v / 10 ≤ 9 ∧ 0 ≤ v - v / 10 * 10 ∧ v - v / 10 * 10 ≤ 9 := by
  obtain ⟨k, rfl⟩ := z_rng (x := v) 11 89 (n := 89) rfl (by decide) h1 (by grind) (by grind)
  exact dig_all k
theorem mul9_all : ∀ i j : Fin 10, (0 : Int32) ≤ (0 + nI i.val) * (0 + nI j.val) ∧ (0 + nI i.val) * (0 + nI j.val) ≤ 81 := by decide +kernel
theorem mul9 {x y : Int32} (h1 : 0 ≤ x) (h2 : x ≤ 9) (h3 : 0 ≤ y) (h4 : y ≤ 9) : 0 ≤ x * y ∧ x * y ≤ 81 := by
  obtain ⟨i, rfl⟩ := z_rng (x := x) 0 10 (n := 10) rfl (by decide) h1 (by grind) (by grind)
  obtain ⟨j, rfl⟩ := z_rng (x := y) 0 10 (n := 10) rfl (by decide) h3 (by grind) (by grind)
  exact mul9_all i j
theorem s_M_areDigits {d nh : Nat} {h : List z_C} {Z : z_Zt} {v : Int32} (hz : ∀ r : Int32, r = (if 11 ≤ v ∧ v ≤ 99 ∧ 0 < v - v / 10 * 10 then 1 else 0) → Z (some (.inl r)) h) : z_EvM (d + 1) nh 173 [.inl v] h Z := by
  refine z_go (c := 8) (t := z_t173) rfl rfl rfl z_tk173 [] 100 (fun C K R hC hK hR => ?_)
  repeat' (first | refine And.intro (fun _ => ?_) (fun _ => ?_) | refine And.intro (vp_in_iff.mpr (by decide)) ?_ | refine And.intro (by decide : ¬ (_ : Int32) = 0) ?_)
  all_goals exact hR _ _ ⟨_, rfl, rfl⟩ (hz _ (by grind []))
theorem s_X_isWeightAndFeet {d nh : Nat} {h : List z_C} {Z : z_Zt} {v : Int32} (hz : ∀ r : Int32, r = (if 11 ≤ v ∧ v ≤ 99 ∧ 0 < v - v / 10 * 10 then 1 else 0) → Z (some (.inl r)) h) : z_EvM (d + 1) nh 106 [.inl v] h Z := by
  refine z_go (c := 7) (t := z_t106) rfl rfl rfl z_tk106 [] 100 (fun C K R hC hK hR => ?_)
  have hd := @dig_in v
  repeat' (first | refine And.intro (fun _ => ?_) (fun _ => ?_) | refine And.intro (vp_in_iff.mpr (by decide)) ?_ | refine And.intro (by decide : ¬ (_ : Int32) = 0) ?_)
  all_goals exact hR _ _ ⟨_, rfl, rfl⟩ (hz _ (by grind []))
theorem s_M_compared {d nh : Nat} {h : List z_C} {Z : z_Zt} {x y : Int32} (hz : ∀ r : Int32, r = cmpF x y → Z (some (.inl r)) h) : z_EvM (d + 1) nh 174 [.inl x, .inl y] h Z := by
  refine z_go (c := 8) (t := z_t174) rfl rfl rfl z_tk174 [] 100 (fun C K R hC hK hR => ?_)
  repeat' (first | refine And.intro (fun _ => ?_) (fun _ => ?_) | refine And.intro (vp_in_iff.mpr (by decide)) ?_ | refine And.intro (by decide : ¬ (_ : Int32) = 0) ?_)
  all_goals exact hR _ _ ⟨_, rfl, rfl⟩ (hz _ (by grind [cmpF]))
theorem s_M_guessBy {d nh : Nat} {h : List z_C} {Z : z_Zt} {rule l r : Int32} (hz : ∀ v : Int32, v = guessF rule l r → Z (some (.inl v)) h) : z_EvM (d + 2) nh 175 [.inl rule, .inl l, .inl r] h Z := by
  refine z_go (c := 8) (t := z_t175) rfl rfl rfl z_tk175 [] 100 (fun C K R hC hK hR => ?_)
  repeat' (first | refine And.intro (fun _ => ?_) (fun _ => ?_) | refine And.intro (vp_in_iff.mpr (by decide)) ?_ | refine And.intro (by decide : ¬ (_ : Int32) = 0) ?_)
  all_goals (conv => whnf)
  all_goals (refine hC _ _ _ _ (s_M_compared (fun v hv => ?_)); exact hR _ _ ⟨_, rfl, rfl⟩ (hz _ (by clear hz hC hK hR; grind [guessF])))
theorem cmp_side {x y : Int32} (h1 : -1000 ≤ x) (h2 : x ≤ 1000) (h3 : -1000 ≤ y) (h4 : y ≤ 1000) : sideF (y - x) = cmpF x y := by grind [sideF, cmpF]
theorem guess_0 {rule l r : Int32} (h : rule = 0) : guessF rule l r = cmpF (l / 10) (r / 10) := by
  subst h; rfl
theorem guess_1 {rule l r : Int32} (h : rule = 1) : guessF rule l r = if l / 10 = r / 10 then cmpF (l - l / 10 * 10) (r - r / 10 * 10) else cmpF (l / 10) (r / 10) := by
  subst h; rfl
theorem guess_2 {rule l r : Int32} (h : rule = 2) : guessF rule l r = cmpF (l / 10 + (l - l / 10 * 10)) (r / 10 + (r - r / 10 * 10)) := by
  subst h; rfl
theorem guess_3 {rule l r : Int32} (h : rule = 3) : guessF rule l r = cmpF (l / 10 * (l - l / 10 * 10)) (r / 10 * (r - r / 10 * 10)) := by
  subst h; rfl
theorem guess_4 {rule l r : Int32} (h0 : ¬ rule = 0) (h1 : ¬ rule = 1) (h2 : ¬ rule = 2) (h3 : ¬ rule = 3) : guessF rule l r = cmpF (l - l / 10 * 10) (r - r / 10 * 10) := by
  unfold guessF
  rw [if_neg h0, if_neg h1, if_neg h2, if_neg h3]
theorem s_X_guessBy {d nh : Nat} {h : List z_C} {Z : z_Zt} {rule l r : Int32} (hl : 11 ≤ l ∧ l ≤ 99) (hr : 11 ≤ r ∧ r ≤ 99) (hz : ∀ v : Int32, v = guessF rule l r → Z (some (.inl v)) h) : z_EvM (d + 2) nh 109 [.inl rule, .inl l, .inl r] h Z := by
  obtain ⟨a1, a2, a3, a4⟩ := dig_in hl.1 hl.2
  obtain ⟨b1, b2, b3, b4⟩ := dig_in hr.1 hr.2
  obtain ⟨m1, m2⟩ := mul9 (x := l / 10) (y := l - l / 10 * 10) (by grind) a2 a3 a4
  obtain ⟨n1, n2⟩ := mul9 (x := r / 10) (y := r - r / 10 * 10) (by grind) b2 b3 b4
  have c1 : sideF (r / 10 - l / 10) = cmpF (l / 10) (r / 10) := cmp_side (by grind) (by grind) (by grind) (by grind)
  have c2 : sideF ((r - r / 10 * 10) - (l - l / 10 * 10)) = cmpF (l - l / 10 * 10) (r - r / 10 * 10) := cmp_side (by grind) (by grind) (by grind) (by grind)
  have c3 : sideF (r / 10 - l / 10 + ((r - r / 10 * 10) - (l - l / 10 * 10))) = cmpF (l / 10 + (l - l / 10 * 10)) (r / 10 + (r - r / 10 * 10)) := by
    rw [← cmp_side (by grind) (by grind) (by grind) (by grind)]
    congr 1
    grind
  have c4 : sideF (r / 10 * (r - r / 10 * 10) - l / 10 * (l - l / 10 * 10)) = cmpF (l / 10 * (l - l / 10 * 10)) (r / 10 * (r - r / 10 * 10)) := cmp_side (by grind) (by grind) (by grind) (by grind)
  clear m1 m2 n1 n2
  refine z_go (c := 7) (t := z_t109) rfl rfl rfl z_tk109 [] 100 (fun C K R hC hK hR => ?_)
  conv => whnf
  repeat refine And.intro (by decide : ¬ (_ : Int32) = 0) ?_
  refine And.intro (fun e0 => ?_) (fun e0 => And.intro (fun e1 => ?_) (fun e1 => And.intro (fun e2 => ?_) (fun e2 => And.intro (fun e3 => ?_) (fun e3 => ?_))))
  · conv => whnf
    refine hC _ _ _ _ (s_X_sideOf (fun v hv => ?_))
    exact hR _ _ ⟨_, rfl, rfl⟩ (hz _ (by rw [hv, guess_0 e0, c1]))
  · refine And.intro (fun e5 => ?_) (fun e5 => ?_)
    · conv => whnf
      refine hC _ _ _ _ (s_X_sideOf (fun v hv => ?_))
      refine hR _ _ ⟨_, rfl, rfl⟩ (hz _ ?_)
      rw [hv, guess_1 e1, if_pos (by clear hz hR hC hK; grind), c2]
    · conv => whnf
      refine hC _ _ _ _ (s_X_sideOf (fun v hv => ?_))
      refine hR _ _ ⟨_, rfl, rfl⟩ (hz _ ?_)
      rw [hv, guess_1 e1, if_neg (by clear hz hR hC hK; grind), c1]
  · conv => whnf
    refine hC _ _ _ _ (s_X_sideOf (fun v hv => ?_))
    exact hR _ _ ⟨_, rfl, rfl⟩ (hz _ (by rw [hv, guess_2 e2, c3]))
  · repeat refine And.intro (by decide : ¬ (_ : Int32) = 0) ?_
    conv => whnf
    refine hC _ _ _ _ (s_X_sideOf (fun v hv => ?_))
    exact hR _ _ ⟨_, rfl, rfl⟩ (hz _ (by rw [hv, guess_3 e3, c4]))
  · conv => whnf
    refine hC _ _ _ _ (s_X_sideOf (fun v hv => ?_))
    exact hR _ _ ⟨_, rfl, rfl⟩ (hz _ (by rw [hv, guess_4 e0 e1 e2 e3, c2]))
