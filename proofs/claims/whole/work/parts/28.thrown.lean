/-! thrown -/
theorem half_lt {b r : Nat} (h0 : 0 < r) (h1 : r < b) : 2 * (b % r) < b := by
  have h2 := Nat.div_add_mod b r
  have h3 := Nat.mod_lt b h0
  have h4 : r ≤ r * (b / r) := Nat.le_mul_of_pos_right r (Nat.div_pos (by omega) h0)
  omega
theorem gcd_st {a b : Nat} : Nat.gcd b (a % b) = Nat.gcd a b := by
  rw [Nat.gcd_comm b, ← Nat.gcd_rec, Nat.gcd_comm]
set_option maxRecDepth 20000 in
theorem s_M_common0 {d nh : Nat} {h : List z_C} {Z : z_Zt} {a : Nat} (hz : Z (some (.inl (nI a))) h) : z_EvM (d + 1) nh 115 [.inl (nI a), .inl (nI 0)] h Z := by
  refine z_go (c := 8) (t := z_t115) rfl rfl rfl z_tk115 [] 100 (fun C K R hC hK hR => ?_)
  refine And.intro (fun q => absurd rfl q) (fun _ => ?_)
  exact hR _ _ ⟨_, rfl, rfl⟩ hz
set_option maxRecDepth 20000 in
theorem s_M_commonS {d nh : Nat} {h : List z_C} {Z : z_Zt} {a b g : Nat} (ha : a < 2 ^ 31) (hb : b < 2 ^ 31) (h0 : 0 < b) (hz : Z (some (.inl (nI g))) h) (k : ∀ Z' : z_Zt, Z' (some (.inl (nI g))) h → z_EvM d nh 115 [.inl (nI b), .inl (nI (a % b))] h Z') : z_EvM (d + 1) nh 115 [.inl (nI a), .inl (nI b)] h Z := by
  refine z_go (c := 8) (t := z_t115) rfl rfl rfl z_tk115 [] 100 (fun C K R hC hK hR => ?_)
  refine And.intro (fun q => ?_) (fun e => absurd e (nI_ne0 h0 hb))
  refine And.intro (nI_ne0 h0 hb) ?_
  rw [pk_rem ha h0 hb]
  conv => whnf
  refine hC _ _ _ _ (k _ ?_)
  exact hR _ _ ⟨_, rfl, rfl⟩ hz
set_option maxRecDepth 20000 in
theorem s_M_common {nh : Nat} {h : List z_C} : ∀ j d a b, b < 2 ^ j → 2 * j ≤ d → a < 2 ^ 31 → b < 2 ^ 31 → ∀ Z : z_Zt, Z (some (.inl (nI (Nat.gcd a b)))) h → z_EvM (d + 1) nh 115 [.inl (nI a), .inl (nI b)] h Z := by
  intro j
  induction j with
  | zero =>
    intro d a b hb hd ha hb2 Z hz
    have h0 : b = 0 := by omega
    subst h0
    rw [Nat.gcd_zero_right] at hz
    exact s_M_common0 hz
  | succ j ih =>
    intro d a b hb hd ha hb2 Z hz
    by_cases h0 : b = 0
    · subst h0
      rw [Nat.gcd_zero_right] at hz
      exact s_M_common0 hz
    · obtain ⟨d2, rfl⟩ : ∃ d2, d = d2 + 2 := ⟨d - 2, by omega⟩
      have hr := Nat.mod_lt a (show 0 < b by omega)
      refine s_M_commonS ha hb2 (by omega) hz (fun Z' hz' => ?_)
      by_cases h1 : a % b = 0
      · rw [← gcd_st, h1, Nat.gcd_zero_right] at hz'
        rw [h1]
        exact s_M_common0 hz'
      · have hl := half_lt (show 0 < a % b by omega) hr
        refine s_M_commonS hb2 (by omega) (by omega) hz' (fun Z2 hz2 => ?_)
        rw [← gcd_st, ← gcd_st] at hz2
        exact ih d2 _ _ (by rw [Nat.pow_succ] at hb; omega) (by omega) (by omega) (by omega) Z2 hz2
section
variable {d nh : Nat} {h : List z_C} {Z : z_Zt} {p o : Int32}
set_option maxRecDepth 20000 in
theorem r_X_ilt0 {a i P : Nat} (ha : 0 < a) (ha2 : a < 2 ^ 31) (hP : P < 2 ^ 31) (hp : p = nI P) (hz : Z (some (.inl (nI (P / a)))) h) : z_Run (d + 1) nh (z_own 7) z_m104.2.1 z_m104.2.2.1 none (fun v h' => z_nar z_m104.2.2.2.1 v ∧ Z v h') 7 [(0, .inl p), (2, .inl (nI a)), (3, .inl (nI 0)), (4, .inl (nI i))] [] h := by
  have tail : z_Run (d + 1) nh (z_own 7) z_m104.2.1 z_m104.2.2.1 none (fun v h' => z_nar z_m104.2.2.2.1 v ∧ Z v h') 34 [(0, .inl p), (2, .inl (nI a))] [] h := by
    refine z_Run_of z_tk104 [] 60 (fun C K R hC hK hR => ?_)
    refine And.intro (fun q => absurd q (nI_nle ha ha2)) (fun q => ?_)
    refine And.intro (nI_ne0 ha ha2) ?_
    rw [hp, pk_div hP ha ha2]
    exact hR _ _ ⟨⟨_, rfl, rfl⟩, hz⟩
  refine z_Run_of z_tk104 [(34, [0, 2])] 60 (fun C K R hC hK hR => ?_)
  refine And.intro (fun q => hK _ _ _ _ tail) (fun q => ?_)
  refine And.intro (fun q => hK _ _ _ _ tail) (fun q => absurd (show nI 0 ≤ 0 by decide) q)
set_option maxRecDepth 20000 in
theorem r_X_iltS {a b i : Nat} (ha : a < 2 ^ 31) (h0 : 0 < b) (hb : b < 2 ^ 31) (hi : i < 64) (k : z_Run (d + 1) nh (z_own 7) z_m104.2.1 z_m104.2.2.1 none (fun v h' => z_nar z_m104.2.2.2.1 v ∧ Z v h') 7 [(0, .inl p), (2, .inl (nI b)), (3, .inl (nI (a % b))), (4, .inl (nI (i + 1)))] [] h) : z_Run (d + 1) nh (z_own 7) z_m104.2.1 z_m104.2.2.1 none (fun v h' => z_nar z_m104.2.2.2.1 v ∧ Z v h') 7 [(0, .inl p), (2, .inl (nI a)), (3, .inl (nI b)), (4, .inl (nI i))] [] h := by
  refine z_Run_of z_tk104 [(7, [0, 2, 3, 4])] 60 (fun C K R hC hK hR => ?_)
  refine And.intro (fun q => absurd q (show ¬ (64 : Int32) ≤ nI i from nI_ge (a := i) (b := 64) (by omega) (by omega))) (fun q => ?_)
  refine And.intro (fun q => absurd q (nI_nle h0 hb)) (fun q => ?_)
  refine And.intro (nI_ne0 h0 hb) ?_
  rw [pk_rem ha h0 hb]
  rw [nI_succ] at k
  exact hK _ _ _ _ k
set_option maxRecDepth 20000 in
theorem r_X_ilt {P g : Nat} (hg : 0 < g) (hg2 : g < 2 ^ 31) (hP : P < 2 ^ 31) (hp : p = nI P) (hz : Z (some (.inl (nI (P / g)))) h) : ∀ j a b i, b < 2 ^ j → i + 2 * j ≤ 64 → a < 2 ^ 31 → b < 2 ^ 31 → Nat.gcd a b = g → z_Run (d + 1) nh (z_own 7) z_m104.2.1 z_m104.2.2.1 none (fun v h' => z_nar z_m104.2.2.2.1 v ∧ Z v h') 7 [(0, .inl p), (2, .inl (nI a)), (3, .inl (nI b)), (4, .inl (nI i))] [] h := by
  intro j
  induction j with
  | zero =>
    intro a b i hb hi ha hb2 hgc
    have h0 : b = 0 := by omega
    subst h0
    rw [Nat.gcd_zero_right] at hgc
    subst hgc
    exact r_X_ilt0 hg hg2 hP hp hz
  | succ j ih =>
    intro a b i hb hi ha hb2 hgc
    by_cases h0 : b = 0
    · subst h0
      rw [Nat.gcd_zero_right] at hgc
      subst hgc
      exact r_X_ilt0 hg hg2 hP hp hz
    · have hr := Nat.mod_lt a (show 0 < b by omega)
      refine r_X_iltS ha (by omega) hb2 (by omega) ?_
      by_cases h1 : a % b = 0
      · rw [← gcd_st, h1, Nat.gcd_zero_right] at hgc
        subst hgc
        rw [h1]
        exact r_X_ilt0 hg hg2 hP hp hz
      · have hl := half_lt (show 0 < a % b by omega) hr
        refine r_X_iltS hb2 (by omega) (by omega) (by omega) ?_
        rw [← gcd_st, ← gcd_st] at hgc
        exact ih _ _ _ (by rw [Nat.pow_succ] at hb; omega) (by omega) (by omega) (by omega) hgc
set_option maxRecDepth 20000 in
theorem s_X_inLeastTerms {P O : Nat} (hP0 : 0 < P) (hP : P < 2 ^ 31) (hO : O < 2 ^ 31) (hO2 : O < 2 ^ 30) (hp : p = nI P) (ho : o = nI O) (hz : Z (some (.inl (nI (P / Nat.gcd P O)))) h) : z_EvM (d + 1) nh 104 [.inl p, .inl o] h Z := by
  subst hp
  subst ho
  refine z_go (c := 7) (t := z_t104) rfl rfl rfl z_tk104 [(7, [0, 2, 3, 4])] 60 (fun C K R hC hK hR => ?_)
  have hg : 0 < Nat.gcd P O := Nat.gcd_pos_of_pos_left O hP0
  have hg2 : Nat.gcd P O ≤ P := Nat.gcd_le_left O hP0
  exact hK _ _ _ _ (r_X_ilt hg (by omega) hP rfl hz 30 P O 0 hO2 (by omega) hP hO rfl)
end
theorem nI_mul (a b : Nat) : nI a * nI b = nI (a * b) := (Int32.ofNat_mul a b).symm
theorem mneg_all : ∀ i j : Fin 41, ((-20 + nI i.val) * (-20 + nI j.val) < 0) ↔ opp (-20 + nI i.val) (-20 + nI j.val) := by decide +kernel
theorem mneg {a b : Int32} (h1 : -20 ≤ a) (h2 : a ≤ 20) (h3 : -20 ≤ b) (h4 : b ≤ 20) : a * b < 0 ↔ opp a b := by
  obtain ⟨i, rfl⟩ := z_rng (x := a) (-20) 41 (n := 41) rfl (by decide) h1 (by grind) (by grind)
  obtain ⟨j, rfl⟩ := z_rng (x := b) (-20) 41 (n := 41) rfl (by decide) h3 (by grind) (by grind)
  exact mneg_all i j
theorem absN_all : ∀ i : Fin 41, ¬ (-20 + nI i.val) = 0 → ∃ m : Fin 21, 1 ≤ m.val ∧ absF (-20 + nI i.val) = nI m.val := by decide +kernel
theorem absN {a : Int32} (h1 : -20 ≤ a) (h2 : a ≤ 20) (h0 : ¬ a = 0) : ∃ m, 1 ≤ m ∧ m ≤ 20 ∧ absF a = nI m := by
  obtain ⟨i, rfl⟩ := z_rng (x := a) (-20) 41 (n := 41) rfl (by decide) h1 (by grind) (by grind)
  obtain ⟨m, h3, h4⟩ := absN_all i h0
  exact ⟨m.val, h3, by omega, h4⟩
theorem inN {x : Int32} {lo hi : Nat} (h1 : nI lo ≤ x) (h2 : x ≤ nI hi) (hh : hi < 2 ^ 31) (hl : lo < 2 ^ 31) : ∃ m, lo ≤ m ∧ m ≤ hi ∧ x = nI m := by
  have h0 := nI_pos' hl
  obtain ⟨m, hm, rfl⟩ := nI_of (x := x) (by grind)
  exact ⟨m, (nI_leI hl hm).mp h1, (nI_leI hm hh).mp h2, rfl⟩
theorem mul_bd {a b A B : Nat} (h1 : 1 ≤ a) (h2 : a ≤ A) (h3 : 1 ≤ b) (h4 : b ≤ B) : 1 ≤ a * b ∧ a * b ≤ A * B := ⟨Nat.mul_pos h1 h3, Nat.mul_le_mul h2 h4⟩
/-- what the throw's two sides are, and what is answered -/
def thF (wt ft A we B part : Int32) (r : Int32) : Prop := (¬ opp A B ∧ r = part) ∨ (opp A B ∧ ∃ P Q, 1 ≤ P ∧ P ≤ 24000 ∧ 1 ≤ Q ∧ Q ≤ 24000 ∧ wt * ft * absF A = nI P ∧ we * absF B = nI Q ∧ r = (if part = 0 then nI (P / Nat.gcd P Q) else nI (Q / Nat.gcd P Q)))
theorem th_num {wt ft A we B : Int32} (hw1 : 1 ≤ wt) (hw2 : wt ≤ 60) (hf1 : 1 ≤ ft) (hf2 : ft ≤ 20) (hA1 : -20 ≤ A) (hA2 : A ≤ 20) (he1 : 1 ≤ we) (he2 : we ≤ 60) (hB1 : -20 ≤ B) (hB2 : B ≤ 20) (h : opp A B) : ∃ P Q, 1 ≤ P ∧ P ≤ 24000 ∧ 1 ≤ Q ∧ Q ≤ 24000 ∧ wt * ft * absF A = nI P ∧ we * absF B = nI Q := by
  obtain ⟨a, a1, a2, a3⟩ := inN (lo := 1) (hi := 60) hw1 hw2 (by omega) (by omega)
  obtain ⟨b, b1, b2, b3⟩ := inN (lo := 1) (hi := 20) hf1 hf2 (by omega) (by omega)
  obtain ⟨c, c1, c2, c3⟩ := inN (lo := 1) (hi := 60) he1 he2 (by omega) (by omega)
  obtain ⟨m, m1, m2, m3⟩ := absN hA1 hA2 (by clear a3 b3 c3; grind)
  obtain ⟨l, l1, l2, l3⟩ := absN hB1 hB2 (by clear a3 b3 c3 m3; grind)
  have p1 := mul_bd a1 a2 b1 b2
  have p2 := mul_bd p1.1 p1.2 m1 m2
  have p3 := mul_bd c1 c2 l1 l2
  exact ⟨a * b * m, c * l, p2.1, by omega, p3.1, by omega, by rw [a3, b3, m3, nI_mul, nI_mul], by rw [c3, l3, nI_mul]⟩
