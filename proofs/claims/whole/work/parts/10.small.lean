theorem s_M_isIn {d nh : Nat} {h : List z_C} {Z : z_Zt} {v n : Int32} (hz : Z (some (.inl (if 0 ≤ v ∧ v < n then 1 else 0))) h) : z_EvM (d + 1) nh 111 [.inl v, .inl n] h Z := by
  refine z_go (c := 8) (t := z_t111) rfl rfl rfl z_tk111 [] 100 (fun C K R hC hK hR => ?_)
  conv => whnf
  refine ⟨fun h1 => ?_, fun h1 => ?_⟩
  · conv => whnf
    trace_state
    sorry
  · sorry
theorem s_M_refuse {d : Nat} {S : z_S} {Z : z_Zt} {x : Int32} (hx : 0 ≤ -x ∧ -x < 7) (hz : Z (some (.inl x)) (z_H (z_w S 60 (upd (S.2 60) (-x).toNatClampNeg (S.2 60 (-x).toNatClampNeg + 1))))) : z_EvM (d + 1) 73 110 [z_p 59, .inl x] (z_H S) Z := by
  refine z_go (c := 8) (t := z_t110) rfl rfl rfl z_tk110 [] 100 (fun C K R hC hK hR => ?_)
  conv => whnf
  trace_state
  sorry
