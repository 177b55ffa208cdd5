/-! SMALL METHODS, both sides -/
theorem z_vin {x : Int32} {n : Nat} (m : Int32) (hm : m.toInt = n) (h0 : 0 ≤ x) (h1 : x < m) : vp_in x n := by
  rw [vp_in_iff]
  have a := Int32.le_iff_toInt_le.mp h0
  have b := Int32.lt_iff_toInt_lt.mp h1
  rw [hm] at b
  exact ⟨a, b⟩
theorem s_M_isIn {d nh : Nat} {h : List z_C} {Z : z_Zt} {v n : Int32} (hz : ∀ r : Int32, r = (if 0 ≤ v ∧ v < n then 1 else 0) → Z (some (.inl r)) h) : z_EvM (d + 1) nh 111 [.inl v, .inl n] h Z := by
  refine z_go (c := 8) (t := z_t111) rfl rfl rfl z_tk111 [] 100 (fun C K R hC hK hR => ?_)
  conv => whnf
  refine ⟨fun h1 => ?_, fun h1 => ?_⟩
  · exact hR _ _ ⟨_, rfl, rfl⟩ (hz _ (by grind))
  · conv => whnf
    refine ⟨fun h2 => ?_, fun h2 => ?_⟩
    · exact hR _ _ ⟨_, rfl, rfl⟩ (hz _ (by grind))
    · exact hR _ _ ⟨_, rfl, rfl⟩ (hz _ (by grind))
theorem s_M_within {d nh : Nat} {h : List z_C} {Z : z_Zt} {v a b : Int32} (hz : ∀ r : Int32, r = (if v < a then -4 else if b < v then -6 else 0) → Z (some (.inl r)) h) : z_EvM (d + 1) nh 112 [.inl v, .inl a, .inl b] h Z := by
  refine z_go (c := 8) (t := z_t112) rfl rfl rfl z_tk112 [] 100 (fun C K R hC hK hR => ?_)
  conv => whnf
  refine ⟨fun h1 => ?_, fun h1 => ?_⟩
  · conv => whnf
    refine ⟨fun h2 => ?_, fun h2 => ?_⟩
    · exact hR _ _ ⟨_, rfl, rfl⟩ (hz _ (by grind))
    · exact hR _ _ ⟨_, rfl, rfl⟩ (hz _ (by grind))
  · exact hR _ _ ⟨_, rfl, rfl⟩ (hz _ (by grind))
theorem s_M_amount {d nh : Nat} {h : List z_C} {Z : z_Zt} {v : Int32} (hz : ∀ r : Int32, r = (if v < 0 then -v else v) → Z (some (.inl r)) h) : z_EvM (d + 1) nh 113 [.inl v] h Z := by
  refine z_go (c := 8) (t := z_t113) rfl rfl rfl z_tk113 [] 100 (fun C K R hC hK hR => ?_)
  conv => whnf
  refine ⟨fun h1 => ?_, fun h1 => ?_⟩
  · exact hR _ _ ⟨_, rfl, rfl⟩ (hz _ (by grind))
  · exact hR _ _ ⟨_, rfl, rfl⟩ (hz _ (by grind))
theorem s_M_isKid {d : Nat} {S : z_S} {Z : z_Zt} {c : Int32} (hz : ∀ r : Int32, r = (if 0 ≤ c ∧ c < S.2 61 3 then 1 else 0) → Z (some (.inl r)) (z_H S)) : z_EvM (d + 2) 73 116 [z_p 59, .inl c] (z_H S) Z := by
  refine z_go (c := 8) (t := z_t116) rfl rfl rfl z_tk116 [] 100 (fun C K R hC hK hR => ?_)
  conv => whnf
  refine ⟨vp_in_iff.mpr (by decide), ?_⟩
  conv => whnf
  refine hC _ _ _ _ (s_M_isIn (fun r hr => ?_))
  refine hR _ _ ⟨_, rfl, ?_⟩ (hz _ hr)
  rw [hr]
  split <;> rfl
theorem s_M_kid {d : Nat} {S : z_S} {Z : z_Zt} {c k : Int32} (hi : vp_in (6 + 4 * c + k) 90) (hz : Z (some (.inl (S.2 61 (6 + 4 * c + k).toNatClampNeg))) (z_H S)) : z_EvM (d + 1) 73 117 [z_p 59, .inl c, .inl k] (z_H S) Z := by
  refine z_go (c := 8) (t := z_t117) rfl rfl rfl z_tk117 [] 100 (fun C K R hC hK hR => ?_)
  conv => whnf
  exact ⟨hi, hR _ _ ⟨_, rfl, rfl⟩ hz⟩
theorem s_M_seatOf {d : Nat} {S : z_S} {Z : z_Zt} {c : Int32} (hi : vp_in (6 + 4 * c + 3) 90) (hz : Z (some (.inl (S.2 61 (6 + 4 * c + 3).toNatClampNeg))) (z_H S)) : z_EvM (d + 2) 73 118 [z_p 59, .inl c] (z_H S) Z := by
  refine z_go (c := 8) (t := z_t118) rfl rfl rfl z_tk118 [] 100 (fun C K R hC hK hR => ?_)
  conv => whnf
  refine hC _ _ _ _ (s_M_kid hi ?_)
  exact hR _ _ ⟨_, rfl, rfl⟩ hz
theorem s_M_isSeat {d : Nat} {S : z_S} {Z : z_Zt} {x : Int32} (hz : ∀ r : Int32, r = (if ¬ x = 0 ∧ x ≤ S.2 61 0 ∧ -S.2 61 0 ≤ x then 1 else 0) → Z (some (.inl r)) (z_H S)) : z_EvM (d + 1) 73 119 [z_p 59, .inl x] (z_H S) Z := by
  refine z_go (c := 8) (t := z_t119) rfl rfl rfl z_tk119 [] 100 (fun C K R hC hK hR => ?_)
  conv => whnf
  refine ⟨fun h1 => ?_, fun h1 => ?_⟩
  · exact hR _ _ ⟨_, rfl, rfl⟩ (hz _ (by grind))
  · conv => whnf
    refine ⟨vp_in_iff.mpr (by decide), ?_⟩
    conv => whnf
    refine ⟨fun h2 => ?_, fun h2 => ?_⟩
    · exact hR _ _ ⟨_, rfl, rfl⟩ (hz _ (by grind))
    · conv => whnf
      refine ⟨vp_in_iff.mpr (by decide), ?_⟩
      conv => whnf
      refine ⟨fun h3 => ?_, fun h3 => ?_⟩
      · exact hR _ _ ⟨_, rfl, rfl⟩ (hz _ (by grind))
      · exact hR _ _ ⟨_, rfl, rfl⟩ (hz _ (by grind))
theorem s_M_refuse {d : Nat} {S : z_S} {Z : z_Zt} {x : Int32} {k : Nat} (hk : k < 7) (hx : -x = nI k) (hz : Z (some (.inl x)) (z_H (z_w S 60 (upd (S.2 60) k (S.2 60 k + 1))))) : z_EvM (d + 1) 73 110 [z_p 59, .inl x] (z_H S) Z := by
  have e : (-x).toNatClampNeg = k := by rw [hx]; exact nI_clamp (by omega)
  have hi : vp_in (-x) 7 := by rw [hx]; exact vp_in_nI hk (by omega)
  refine z_go (c := 8) (t := z_t110) rfl rfl rfl z_tk110 [] 100 (fun C K R hC hK hR => ?_)
  conv => whnf
  refine ⟨hi, ?_⟩
  conv => whnf
  refine ⟨hi, ?_⟩
  refine hR _ _ ⟨_, rfl, rfl⟩ ?_
  rw [← e] at hz
  exact hz
