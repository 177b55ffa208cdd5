/-! turns and sums: the words for them, and the methods that tell them -/
def armF (notch seat : Int32) : Int32 := seat - (notch - 2)
def hangF (w a : Int32) : Int32 := w * (if a < 0 then a - 1 else a + 1)
def innF (w a : Int32) : Int32 := w * (if 0 < a then a - 1 else if a < 0 then a + 1 else 0)
def turnF (kd w a : Int32) : Int32 := if kd = 0 then w * a else if kd = 1 then hangF w a else if kd = 2 then innF w a else if kd = 3 then 2 * hangF w a else if kd = 4 then innF w a / 2 else 0
def ownF (own notch : Int32) : Int32 := -own * (notch - 2)
def sideF (x : Int32) : Int32 := if x < 0 then 0 else if x = 0 then 1 else 2
theorem s_M_armOf {d : Nat} {S : z_S} {Z : z_Zt} {x : Int32} (hz : ∀ r : Int32, r = armF (S.2 61 2) x → Z (some (.inl r)) (z_H S)) : z_EvM (d + 1) 73 137 [z_p 59, .inl x] (z_H S) Z := by
  refine z_go (c := 8) (t := z_t137) rfl rfl rfl z_tk137 [] 100 (fun C K R hC hK hR => ?_)
  conv => whnf
  refine ⟨vp_in_iff.mpr (by decide), ?_⟩
  exact hR _ _ ⟨_, rfl, rfl⟩ (hz _ rfl)
theorem s_M_bare {d : Nat} {S : z_S} {Z : z_Zt} {x : Int32} (hz : ∀ r : Int32, r = x + ownF (S.2 61 1) (S.2 61 2) → Z (some (.inl r)) (z_H S)) : z_EvM (d + 1) 73 140 [z_p 59, .inl x] (z_H S) Z := by
  refine z_go (c := 8) (t := z_t140) rfl rfl rfl z_tk140 [] 100 (fun C K R hC hK hR => ?_)
  conv => whnf
  refine ⟨vp_in_iff.mpr (by decide), ?_⟩
  conv => whnf
  refine ⟨vp_in_iff.mpr (by decide), ?_⟩
  refine hR _ _ ⟨_, rfl, rfl⟩ (hz _ ?_)
  show x - S.2 61 1 * (S.2 61 2 - 2) = x + -S.2 61 1 * (S.2 61 2 - 2)
  grind
theorem s_M_downBy {d nh : Nat} {h : List z_C} {Z : z_Zt} {x : Int32} (hz : ∀ r : Int32, r = sideF x → Z (some (.inl r)) h) : z_EvM (d + 1) nh 143 [.inl x] h Z := by
  refine z_go (c := 8) (t := z_t143) rfl rfl rfl z_tk143 [] 100 (fun C K R hC hK hR => ?_)
  conv => whnf
  refine ⟨fun h1 => ?_, fun h1 => ?_⟩
  · conv => whnf
    refine ⟨fun h2 => ?_, fun h2 => ?_⟩
    · exact hR _ _ ⟨_, rfl, rfl⟩ (hz _ (by grind [sideF]))
    · exact hR _ _ ⟨_, rfl, rfl⟩ (hz _ (by grind [sideF]))
  · exact hR _ _ ⟨_, rfl, rfl⟩ (hz _ (by grind [sideF]))
theorem s_X_sideOf {d nh : Nat} {h : List z_C} {Z : z_Zt} {x : Int32} (hz : ∀ r : Int32, r = sideF x → Z (some (.inl r)) h) : z_EvM (d + 1) nh 101 [.inl x] h Z := by
  refine z_go (c := 7) (t := z_t101) rfl rfl rfl z_tk101 [] 100 (fun C K R hC hK hR => ?_)
  conv => whnf
  refine ⟨fun h1 => ?_, fun h1 => ?_⟩
  · conv => whnf
    refine ⟨fun h2 => ?_, fun h2 => ?_⟩
    · exact hR _ _ ⟨_, rfl, rfl⟩ (hz _ (by grind [sideF]))
    · exact hR _ _ ⟨_, rfl, rfl⟩ (hz _ (by grind [sideF]))
  · exact hR _ _ ⟨_, rfl, rfl⟩ (hz _ (by grind [sideF]))
theorem s_X_isSide {d nh : Nat} {h : List z_C} {Z : z_Zt} {v : Int32} (hz : ∀ r : Int32, r = (if 0 ≤ v ∧ v < 3 then 1 else 0) → Z (some (.inl r)) h) : z_EvM (d + 1) nh 102 [.inl v] h Z := by
  refine z_go (c := 7) (t := z_t102) rfl rfl rfl z_tk102 [] 100 (fun C K R hC hK hR => ?_)
  conv => whnf
  refine ⟨fun h1 => ?_, fun h1 => ?_⟩
  · exact hR _ _ ⟨_, rfl, rfl⟩ (hz _ (by grind))
  · conv => whnf
    refine ⟨fun h2 => ?_, fun h2 => ?_⟩
    · exact hR _ _ ⟨_, rfl, rfl⟩ (hz _ (by grind))
    · exact hR _ _ ⟨_, rfl, rfl⟩ (hz _ (by grind))
theorem s_X_isRule {d nh : Nat} {h : List z_C} {Z : z_Zt} {v : Int32} (hz : ∀ r : Int32, r = (if 0 ≤ v ∧ v < 5 then 1 else 0) → Z (some (.inl r)) h) : z_EvM (d + 1) nh 105 [.inl v] h Z := by
  refine z_go (c := 7) (t := z_t105) rfl rfl rfl z_tk105 [] 100 (fun C K R hC hK hR => ?_)
  conv => whnf
  refine ⟨fun h1 => ?_, fun h1 => ?_⟩
  · exact hR _ _ ⟨_, rfl, rfl⟩ (hz _ (by grind))
  · conv => whnf
    refine ⟨fun h2 => ?_, fun h2 => ?_⟩
    · exact hR _ _ ⟨_, rfl, rfl⟩ (hz _ (by grind))
    · exact hR _ _ ⟨_, rfl, rfl⟩ (hz _ (by grind))
theorem s_X_areOpposite {d nh : Nat} {h : List z_C} {Z : z_Zt} {x y : Int32} (hz : ∀ r : Int32, r = (if (0 < x ∧ y < 0) ∨ (x < 0 ∧ 0 < y) then 1 else 0) → Z (some (.inl r)) h) : z_EvM (d + 1) nh 103 [.inl x, .inl y] h Z := by
  refine z_go (c := 7) (t := z_t103) rfl rfl rfl z_tk103 [] 100 (fun C K R hC hK hR => ?_)
  conv => whnf
  refine ⟨fun h1 => ?_, fun h1 => ?_⟩
  · conv => whnf
    refine ⟨fun h2 => ?_, fun h2 => ?_⟩
    · exact hR _ _ ⟨_, rfl, rfl⟩ (hz _ (by grind))
    · conv => whnf
      refine ⟨fun h3 => ?_, fun h3 => ?_⟩
      · exact hR _ _ ⟨_, rfl, rfl⟩ (hz _ (by grind))
      · exact hR _ _ ⟨_, rfl, rfl⟩ (hz _ (by grind))
  · conv => whnf
    refine ⟨fun h2 => ?_, fun h2 => ?_⟩
    · exact hR _ _ ⟨_, rfl, rfl⟩ (hz _ (by grind))
    · conv => whnf
      refine ⟨fun h3 => ?_, fun h3 => ?_⟩
      · exact hR _ _ ⟨_, rfl, rfl⟩ (hz _ (by grind))
      · conv => whnf
        refine ⟨fun h4 => ?_, fun h4 => ?_⟩
        · exact hR _ _ ⟨_, rfl, rfl⟩ (hz _ (by grind))
        · exact hR _ _ ⟨_, rfl, rfl⟩ (hz _ (by grind))
