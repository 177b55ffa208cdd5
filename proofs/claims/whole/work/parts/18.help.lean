/-! two-way answers; the seats; what a board's change keeps -/
theorem zb_t {r : Int32} {P : Prop} (h : z_b r P) (e : ¬ r = 0) : P := by
  rcases h with ⟨-, h⟩ | ⟨h, -⟩
  · exact h
  · exact absurd h e
theorem zb_f {r : Int32} {P : Prop} (h : z_b r P) (e : r = 0) : ¬ P := by
  rcases h with ⟨h, -⟩ | ⟨-, h⟩
  · rw [h] at e
    exact absurd e (by decide)
  · exact h
theorem zb_if {r : Int32} {P : Prop} [Decidable P] (h : r = if P then 1 else 0) : z_b r P := by
  by_cases q : P
  · exact Or.inl ⟨by rw [h, if_pos q], q⟩
  · exact Or.inr ⟨by rw [h, if_neg q], q⟩
theorem zb_iff {r : Int32} {P Q : Prop} (h : z_b r P) (i : P ↔ Q) : z_b r Q := by
  rcases h with ⟨a, b⟩ | ⟨a, b⟩
  · exact Or.inl ⟨a, i.mp b⟩
  · exact Or.inr ⟨a, fun q => b (i.mpr q)⟩
theorem zb_1 {r : Int32} {P : Prop} (h : z_b r P) (p : P) : r = 1 := by
  rcases h with ⟨a, b⟩ | ⟨a, b⟩
  · exact a
  · exact absurd p b
theorem zb_0 {r : Int32} {P : Prop} (h : z_b r P) (p : ¬ P) : r = 0 := by
  rcases h with ⟨a, b⟩ | ⟨a, b⟩
  · exact absurd b p
  · exact a
def isN (c : Int32) (n : Nat) : Prop := ∃ k, k < n ∧ c = nI k
abbrev sP (L x : Int32) : Prop := ¬ x = 0 ∧ x ≤ L ∧ -L ≤ x
theorem isN_iff {c : Int32} {n : Nat} (hn : n < 2 ^ 31) : (0 ≤ c ∧ c < nI n) ↔ isN c n := by
  constructor
  · intro h
    obtain ⟨j, hj, e⟩ := nI_of (x := c) (by grind)
    subst e
    exact ⟨j, (nI_ltI hj hn).mp h.2, rfl⟩
  · intro h
    obtain ⟨k, hk, rfl⟩ := h
    exact ⟨nI_pos' (by omega), nI_lt hk hn⟩
theorem sP_in {L x : Int32} (h1 : L ≤ 6) (h2 : 1 ≤ L) (h : sP L x) : -6 ≤ x ∧ x ≤ 6 := by
  obtain ⟨h3, h4, h5⟩ := h
  constructor <;> grind
theorem s_M_isInP {d nh : Nat} {h : List z_C} {Z : z_Zt} {v m : Int32} (n : Nat) (hn : n < 2 ^ 31) (hm : m = nI n) (hz : ∀ r : Int32, z_b r (isN v n) → Z (some (.inl r)) h) : z_EvM (d + 1) nh 111 [.inl v, .inl m] h Z := by
  subst hm
  exact s_M_isIn (fun r hr => hz r (zb_iff (zb_if hr) (isN_iff hn)))
theorem s_X_isSideP {d nh : Nat} {h : List z_C} {Z : z_Zt} {v : Int32} (hz : ∀ r : Int32, z_b r (isN v 3) → Z (some (.inl r)) h) : z_EvM (d + 1) nh 102 [.inl v] h Z :=
  s_X_isSide (fun r hr => hz r (zb_iff (zb_if hr) (isN_iff (n := 3) (by omega))))
theorem s_X_isRuleP {d nh : Nat} {h : List z_C} {Z : z_Zt} {v : Int32} (hz : ∀ r : Int32, z_b r (isN v 5) → Z (some (.inl r)) h) : z_EvM (d + 1) nh 105 [.inl v] h Z :=
  s_X_isRule (fun r hr => hz r (zb_iff (zb_if hr) (isN_iff (n := 5) (by omega))))
abbrev digP (v : Int32) : Prop := 11 ≤ v ∧ v ≤ 99 ∧ 0 < v - v / 10 * 10
theorem s_M_areDigitsP {d nh : Nat} {h : List z_C} {Z : z_Zt} {v : Int32} (hz : ∀ r : Int32, z_b r (digP v) → Z (some (.inl r)) h) : z_EvM (d + 1) nh 173 [.inl v] h Z :=
  s_M_areDigits (fun r hr => hz r (zb_if hr))
theorem s_X_isWeightAndFeetP {d nh : Nat} {h : List z_C} {Z : z_Zt} {v : Int32} (hz : ∀ r : Int32, z_b r (digP v) → Z (some (.inl r)) h) : z_EvM (d + 1) nh 106 [.inl v] h Z :=
  s_X_isWeightAndFeet (fun r hr => hz r (zb_if hr))
theorem s_B0_hasChildP {d n : Nat} {S : z_S} {Z : z_Zt} {c : Int32} (hc : S.1 3 = nI n) (hn : n ≤ 5) (hz : ∀ r : Int32, z_b r (isN c n) → Z (some (.inl r)) (z_H S)) : z_EvM (d + 1) 73 1 [z_p 4, .inl c] (z_H S) Z := by
  refine s_B0_hasChild (fun r hr => hz r (zb_iff (zb_if hr) ?_))
  rw [hc]
  exact isN_iff (by omega)
theorem s_B0_hasSeatP {d : Nat} {S : z_S} {Z : z_Zt} {x : Int32} (hz : ∀ r : Int32, z_b r (sP (S.1 0) x) → Z (some (.inl r)) (z_H S)) : z_EvM (d + 1) 73 2 [z_p 4, .inl x] (z_H S) Z :=
  s_B0_hasSeat (fun r hr => hz r (zb_if hr))
theorem s_B0_sitsP {d k n : Nat} {S : z_S} {Z : z_Zt} (hc : S.1 3 = nI n) (hn : n ≤ 5) (hk : k < n) (hz : ∀ r : Int32, z_b r (¬ S.2 8 k = 0) → Z (some (.inl r)) (z_H S)) : z_EvM (d + 2) 73 3 [z_p 4, .inl (nI k)] (z_H S) Z := by
  refine s_B0_sitsN hc hn hk (fun r hr => hz r ?_)
  by_cases q : S.2 8 k = 0
  · exact Or.inr ⟨by rw [hr, if_pos q], fun z => z q⟩
  · exact Or.inl ⟨by rw [hr, if_neg q], q⟩

theorem s_B1_hasChildP {d n : Nat} {S : z_S} {Z : z_Zt} {c : Int32} (hc : S.1 7 = nI n) (hn : n ≤ 5) (hz : ∀ r : Int32, z_b r (isN c n) → Z (some (.inl r)) (z_H S)) : z_EvM (d + 1) 73 1 [z_p 9, .inl c] (z_H S) Z := by
  refine s_B1_hasChild (fun r hr => hz r (zb_iff (zb_if hr) ?_))
  rw [hc]
  exact isN_iff (by omega)
theorem s_B1_hasSeatP {d : Nat} {S : z_S} {Z : z_Zt} {x : Int32} (hz : ∀ r : Int32, z_b r (sP (S.1 4) x) → Z (some (.inl r)) (z_H S)) : z_EvM (d + 1) 73 2 [z_p 9, .inl x] (z_H S) Z :=
  s_B1_hasSeat (fun r hr => hz r (zb_if hr))
theorem s_B1_sitsP {d k n : Nat} {S : z_S} {Z : z_Zt} (hc : S.1 7 = nI n) (hn : n ≤ 5) (hk : k < n) (hz : ∀ r : Int32, z_b r (¬ S.2 13 k = 0) → Z (some (.inl r)) (z_H S)) : z_EvM (d + 2) 73 3 [z_p 9, .inl (nI k)] (z_H S) Z := by
  refine s_B1_sitsN hc hn hk (fun r hr => hz r ?_)
  by_cases q : S.2 13 k = 0
  · exact Or.inr ⟨by rw [hr, if_pos q], fun z => z q⟩
  · exact Or.inl ⟨by rw [hr, if_neg q], q⟩
section
variable {d n : Nat} {S D : z_S} {Z : z_Zt}
theorem s_M_isKidP {c : Int32} (hD : z_Rl (S.2 61) D) (hc : D.1 3 = nI n) (hn : n ≤ 5) (hz : ∀ r : Int32, z_b r (isN c n) → Z (some (.inl r)) (z_H S)) : z_EvM (d + 2) 73 116 [z_p 59, .inl c] (z_H S) Z := by
  have e : S.2 61 3 = nI n := (hD.1 3 (by omega)).trans hc
  refine s_M_isKid (fun r hr => hz r (zb_iff (zb_if hr) ?_))
  rw [e]
  exact isN_iff (by omega)
theorem s_M_isSeatP {x : Int32} (hD : z_Rl (S.2 61) D) (hz : ∀ r : Int32, z_b r (sP (D.1 0) x) → Z (some (.inl r)) (z_H S)) : z_EvM (d + 1) 73 119 [z_p 59, .inl x] (z_H S) Z := by
  have e : S.2 61 0 = D.1 0 := hD.1 0 (by omega)
  refine s_M_isSeat (fun r hr => hz r ?_)
  rw [e] at hr
  exact zb_if hr
/-- who sits on a seat (not 0) -/
def whP (r : Int32) (n : Nat) (fe : Nat → Int32) (x : Int32) : Prop := (∃ i, i < n ∧ r = nI i ∧ ¬ r < 0 ∧ fe i = x ∧ ∀ j, j < i → ¬ fe j = x) ∨ (r = -9 ∧ r < 0 ∧ ∀ i, i < n → ¬ fe i = x)
theorem s_M_whoP {x : Int32} (hD : z_Rl (S.2 61) D) (hc : D.1 3 = nI n) (hn : n ≤ 5) (hx : ¬ x = 0) (hz : ∀ r : Int32, whP r n (D.2 3) x → Z (some (.inl r)) (z_H S)) : z_EvM (d + 3) 73 134 [z_p 59, .inl x] (z_H S) Z := by
  refine s_M_whoSits hD hc hn (fun r hr => hz r ?_)
  rcases hr with ⟨i, h1, h2, -, h3, h4⟩ | ⟨h1, h2⟩
  · exact Or.inl ⟨i, h1, h2, by rw [h2]; exact nI_pos (by omega), h3, h4⟩
  · rcases h2 with h2 | h2
    · exact absurd h2 hx
    · exact Or.inr ⟨h1, by rw [h1]; decide, h2⟩
theorem s_M_who0 (hD : z_Rl (S.2 61) D) (hc : D.1 3 = nI n) (hn : n ≤ 5) (hz : Z (some (.inl (-9))) (z_H S)) : z_EvM (d + 3) 73 134 [z_p 59, .inl 0] (z_H S) Z := by
  refine s_M_whoSits hD hc hn (fun r hr => ?_)
  rcases hr with ⟨i, h1, h2, h3, -⟩ | ⟨h1, h2⟩
  · exact absurd rfl h3
  · rw [h1]; exact hz
end
theorem fe_upd {n k : Nat} {fe : Nat → Int32} {x : Int32} (h : z_fe n fe) (h1 : -6 ≤ x) (h2 : x ≤ 6) : z_fe n (upd fe k x) := by
  intro j hj
  by_cases e : j = k
  · subst e
    rw [pk_us]
    exact ⟨h1, h2⟩
  · rw [pk_un e]
    exact h j hj
theorem di_upd {n k : Nat} {fe : Nat → Int32} {x : Int32} (h : ∀ i j, i < n → j < n → ¬ i = j → fe i = fe j → fe i = 0) (hx : x = 0 ∨ ∀ i, i < n → ¬ i = k → ¬ fe i = x) : ∀ i j, i < n → j < n → ¬ i = j → upd fe k x i = upd fe k x j → upd fe k x i = 0 := by
  intro i j hi hj hij e
  by_cases e1 : i = k
  · subst e1
    rw [pk_us] at e ⊢
    rw [pk_un (fun z => hij z.symm)] at e
    rcases hx with hx | hx
    · exact hx
    · exact absurd e.symm (hx j hj (fun z => hij z.symm))
  · rw [pk_un e1] at e ⊢
    by_cases e2 : j = k
    · subst e2
      rw [pk_us] at e
      rcases hx with hx | hx
      · rw [e]; exact hx
      · exact absurd e (hx i hi e1)
    · rw [pk_un e2] at e
      exact h i j hi hj hij e
