/-! the texts' methods -/
def chS (q k : Nat) : Int32 := (z_byt.getD q []).getD k 0
set_option maxRecDepth 20000 in
theorem s_S_isEmpty {d nh q : Nat} {h : List z_C} {Z : z_Zt} (hq : q < 5) (hz : ∀ r : Int32, z_b r (q = 4) → Z (some (.inl r)) h) : z_EvM (d + 9) nh 188 [.inr (some (1000000 + q))] h Z := by
  sorry
set_option maxRecDepth 20000 in
theorem s_S_length {d nh q : Nat} {h : List z_C} {Z : z_Zt} (hq : q < 5) (hz : Z (some (.inl (nI (z_len.getD q 0)))) h) : z_EvM (d + 9) nh 187 [.inr (some (1000000 + q))] h Z := by
  sorry
set_option maxRecDepth 20000 in
theorem s_S_charAt {d nh q k : Nat} {h : List z_C} {Z : z_Zt} (hq : q < 5) (hk : k < z_len.getD q 0) (hz : Z (some (.inl (chS q k))) h) : z_EvM (d + 9) nh 189 [.inr (some (1000000 + q)), .inl (nI k)] h Z := by
  sorry
