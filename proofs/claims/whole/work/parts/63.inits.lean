/-! the small constructors -/
theorem k_lt {a b : Nat} (h : Nat.blt a b = true) : a < b := Nat.lt_of_lt_of_le (Nat.lt_succ_self a) (Nat.le_of_ble_eq_true h)
theorem k_df0 : ∀ j, j < 8 → defaultValue (tyX0 j) = vp_V [.int 0, .int 0, .int 0, .int 0, .null, .null, .null, .null] j := fun j hj => by
  match j, hj with
  | 0, _ => rfl
  | 1, _ => rfl
  | 2, _ => rfl
  | 3, _ => rfl
  | 4, _ => rfl
  | 5, _ => rfl
  | 6, _ => rfl
  | 7, _ => rfl
  | j + 8, h => exact absurd h (by omega)
theorem k_df1 : ∀ j, j < 10 → defaultValue (tyX1 j) = vp_V [.int 0, .int 0, .int 0, .int 0, .null, .null, .null, .null, .null, .null] j := fun j hj => by
  match j, hj with
  | 0, _ => rfl
  | 1, _ => rfl
  | 2, _ => rfl
  | 3, _ => rfl
  | 4, _ => rfl
  | 5, _ => rfl
  | 6, _ => rfl
  | 7, _ => rfl
  | 8, _ => rfl
  | 9, _ => rfl
  | j + 10, h => exact absurd h (by omega)
theorem k_df2 : ∀ j, j < 4 → defaultValue (tyX2 j) = vp_V [.int 0, .null, .null, .null] j := fun j hj => by
  match j, hj with
  | 0, _ => rfl
  | 1, _ => rfl
  | 2, _ => rfl
  | 3, _ => rfl
  | j + 4, h => exact absurd h (by omega)
theorem k_df3 : ∀ j, j < 8 → defaultValue (tyX3 j) = vp_V [.int 0, .int 0, .int 0, .null, .int 0, .null, .null, .null] j := fun j hj => by
  match j, hj with
  | 0, _ => rfl
  | 1, _ => rfl
  | 2, _ => rfl
  | 3, _ => rfl
  | 4, _ => rfl
  | 5, _ => rfl
  | 6, _ => rfl
  | 7, _ => rfl
  | j + 8, h => exact absurd h (by omega)
theorem k_df4 : ∀ j, j < 9 → defaultValue (tyX4 j) = vp_V [.int 0, .int 0, .int 0, .null, .int 0, .int 0, .null, .null, .null] j := fun j hj => by
  match j, hj with
  | 0, _ => rfl
  | 1, _ => rfl
  | 2, _ => rfl
  | 3, _ => rfl
  | 4, _ => rfl
  | 5, _ => rfl
  | 6, _ => rfl
  | 7, _ => rfl
  | 8, _ => rfl
  | j + 9, h => exact absurd h (by omega)
theorem k_df5 : ∀ j, j < 3 → defaultValue (tyX5 j) = vp_V [.int 0, .int 0, .int 0] j := fun j hj => by
  match j, hj with
  | 0, _ => rfl
  | 1, _ => rfl
  | 2, _ => rfl
  | j + 3, h => exact absurd h (by omega)
theorem k_df6 : ∀ j, j < 5 → defaultValue (tyX6 j) = vp_V [.null, .int 0, .int 0, .int 0, .null] j := fun j hj => by
  match j, hj with
  | 0, _ => rfl
  | 1, _ => rfl
  | 2, _ => rfl
  | 3, _ => rfl
  | 4, _ => rfl
  | j + 5, h => exact absurd h (by omega)
theorem k_df7 : ∀ j, j < 15 → defaultValue (tyX7 j) = vp_V [.null, .null, .null, .null, .null, .null, .null, .null, .null, .null, .null, .null, .null, .int 0, .int 0] j := fun j hj => by
  match j, hj with
  | 0, _ => rfl
  | 1, _ => rfl
  | 2, _ => rfl
  | 3, _ => rfl
  | 4, _ => rfl
  | 5, _ => rfl
  | 6, _ => rfl
  | 7, _ => rfl
  | 8, _ => rfl
  | 9, _ => rfl
  | 10, _ => rfl
  | 11, _ => rfl
  | 12, _ => rfl
  | 13, _ => rfl
  | 14, _ => rfl
  | j + 15, h => exact absurd h (by omega)
theorem k_df8 : ∀ j, j < 23 → defaultValue (tyX8 j) = vp_V [.null, .null, .null, .null, .int 0, .null, .null, .int 0, .int 0, .null, .null, .null, .int 0, .int 0, .null, .int 0, .int 0, .null, .int 0, .int 0, .null, .null, .int 0] j := fun j hj => by
  match j, hj with
  | 0, _ => rfl
  | 1, _ => rfl
  | 2, _ => rfl
  | 3, _ => rfl
  | 4, _ => rfl
  | 5, _ => rfl
  | 6, _ => rfl
  | 7, _ => rfl
  | 8, _ => rfl
  | 9, _ => rfl
  | 10, _ => rfl
  | 11, _ => rfl
  | 12, _ => rfl
  | 13, _ => rfl
  | 14, _ => rfl
  | 15, _ => rfl
  | 16, _ => rfl
  | 17, _ => rfl
  | 18, _ => rfl
  | 19, _ => rfl
  | 20, _ => rfl
  | 21, _ => rfl
  | 22, _ => rfl
  | j + 23, h => exact absurd h (by omega)
def k_w6 (ci : z_I) (h0 : Nat) (w : va_W) : Prop := ∃ q1 q2 : Nat, w = [(h0, .inr (6, [.ref q1, .int 0, .int 0, .int 0, .ref q2])), (q1, .inl (ci.1, 80, .inl (fun _ => 0))), (q2, .inl (ci.1, 3, .inl (fun _ => 0)))]
set_option maxHeartbeats 4000000 in
set_option maxRecDepth 20000 in
theorem k_m6 : k_Met 1 2 83 yX6_init cX6_init (.inr (6, [.null, .int 0, .int 0, .int 0, .null])) k_w6 := k_body (by decide +kernel) rfl (fun D ci h0 => by
  refine k_al (by decide +kernel) ?_
  refine k_oi (by decide +kernel) (mem_ALL (i := 81) rfl rfl) ?_
  show k_Go _ _ _ _ _ _ _ _ _ 4 [] 0 0 [(h0, .inr (6, [.null, .int 0, .int 0, .int 0, .null]))]
  refine k_al (by decide +kernel) ?_
  refine k_bp (n := 80) (v := 80) (by decide +kernel) (by decide) ?_
  refine k_nI (N := 80) (by decide +kernel) (by decide) (by decide) (by decide) (by decide) (by decide) (fun q1 => ?_)
  show k_Go _ _ _ _ _ _ _ _ _ 9 [.ref q1, .ref h0] 1 80 [(h0, .inr (6, [.null, .int 0, .int 0, .int 0, .null])), (q1, .inl (ci.1, 80, .inl (fun _ => 0)))]
  refine k_pq 0 (by decide +kernel) z_K_6 (kf := 0) (by decide) (mem_ALL (i := 82) rfl rfl) rfl rfl (ty := tyX6 0) (by decide +kernel) rfl rfl (k_lt rfl) rfl ?_
  show k_Go _ _ _ _ _ _ _ _ _ 12 [] 1 80 [(h0, .inr (6, [.ref q1, .int 0, .int 0, .int 0, .null])), (q1, .inl (ci.1, 80, .inl (fun _ => 0)))]
  refine k_al (by decide +kernel) ?_
  refine k_ic (n := 3) (v := 3) (by decide +kernel) (by decide) ?_
  refine k_nI (N := 3) (by decide +kernel) (by decide) (by decide) (by decide) (by decide) (by decide) (fun q2 => ?_)
  show k_Go _ _ _ _ _ _ _ _ _ 16 [.ref q2, .ref h0] 2 83 [(h0, .inr (6, [.ref q1, .int 0, .int 0, .int 0, .null])), (q1, .inl (ci.1, 80, .inl (fun _ => 0))), (q2, .inl (ci.1, 3, .inl (fun _ => 0)))]
  refine k_pq 0 (by decide +kernel) z_K_6 (kf := 4) (by decide) (mem_ALL (i := 89) rfl rfl) rfl rfl (ty := tyX6 4) (by decide +kernel) rfl rfl (k_lt rfl) rfl ?_
  show k_Go _ _ _ _ _ _ _ _ _ 19 [] 2 83 [(h0, .inr (6, [.ref q1, .int 0, .int 0, .int 0, .ref q2])), (q1, .inl (ci.1, 80, .inl (fun _ => 0))), (q2, .inl (ci.1, 3, .inl (fun _ => 0)))]
  exact k_re (by decide +kernel) ⟨q1, q2, rfl⟩ (by decide) (by decide))
def k_w0 (ci : z_I) (h0 : Nat) (w : va_W) : Prop := ∃ q1 q2 q3 q4 : Nat, w = [(h0, .inr (0, [.int 6, .int 0, .int 2, .int 0, .ref q1, .ref q2, .ref q3, .ref q4])), (q1, .inl (ci.1, 5, .inl (fun _ => 0))), (q2, .inl (ci.1, 5, .inl (fun _ => 0))), (q3, .inl (ci.1, 5, .inl (fun _ => 0))), (q4, .inl (ci.1, 5, .inl (fun _ => 0)))]
set_option maxHeartbeats 4000000 in
set_option maxRecDepth 20000 in
theorem k_m0 : k_Met 1 4 20 yX0_init cX0_init (.inr (0, [.int 0, .int 0, .int 0, .int 0, .null, .null, .null, .null])) k_w0 := k_body (by decide +kernel) rfl (fun D ci h0 => by
  refine k_al (by decide +kernel) ?_
  refine k_oi (by decide +kernel) (mem_ALL (i := 108) rfl rfl) ?_
  show k_Go _ _ _ _ _ _ _ _ _ 4 [] 0 0 [(h0, .inr (0, [.int 0, .int 0, .int 0, .int 0, .null, .null, .null, .null]))]
  refine k_al (by decide +kernel) ?_
  refine k_bp (n := 6) (v := 6) (by decide +kernel) (by decide) ?_
  refine k_pi 0 (by decide +kernel) z_K_0 (kf := 0) (by decide) (mem_ALL (i := 109) rfl rfl) rfl (ty := tyX0 0) (by decide +kernel) rfl rfl (k_lt rfl) rfl ?_
  show k_Go _ _ _ _ _ _ _ _ _ 10 [] 0 0 [(h0, .inr (0, [.int 6, .int 0, .int 0, .int 0, .null, .null, .null, .null]))]
  refine k_al (by decide +kernel) ?_
  refine k_ic (n := 2) (v := 2) (by decide +kernel) (by decide) ?_
  refine k_pi 0 (by decide +kernel) z_K_0 (kf := 2) (by decide) (mem_ALL (i := 113) rfl rfl) rfl (ty := tyX0 2) (by decide +kernel) rfl rfl (k_lt rfl) rfl ?_
  show k_Go _ _ _ _ _ _ _ _ _ 15 [] 0 0 [(h0, .inr (0, [.int 6, .int 0, .int 2, .int 0, .null, .null, .null, .null]))]
  refine k_al (by decide +kernel) ?_
  refine k_ic (n := 5) (v := 5) (by decide +kernel) (by decide) ?_
  refine k_nI (N := 5) (by decide +kernel) (by decide) (by decide) (by decide) (by decide) (by decide) (fun q1 => ?_)
  show k_Go _ _ _ _ _ _ _ _ _ 19 [.ref q1, .ref h0] 1 5 [(h0, .inr (0, [.int 6, .int 0, .int 2, .int 0, .null, .null, .null, .null])), (q1, .inl (ci.1, 5, .inl (fun _ => 0)))]
  refine k_pq 0 (by decide +kernel) z_K_0 (kf := 4) (by decide) (mem_ALL (i := 119) rfl rfl) rfl rfl (ty := tyX0 4) (by decide +kernel) rfl rfl (k_lt rfl) rfl ?_
  show k_Go _ _ _ _ _ _ _ _ _ 22 [] 1 5 [(h0, .inr (0, [.int 6, .int 0, .int 2, .int 0, .ref q1, .null, .null, .null])), (q1, .inl (ci.1, 5, .inl (fun _ => 0)))]
  refine k_al (by decide +kernel) ?_
  refine k_ic (n := 5) (v := 5) (by decide +kernel) (by decide) ?_
  refine k_nI (N := 5) (by decide +kernel) (by decide) (by decide) (by decide) (by decide) (by decide) (fun q2 => ?_)
  show k_Go _ _ _ _ _ _ _ _ _ 26 [.ref q2, .ref h0] 2 10 [(h0, .inr (0, [.int 6, .int 0, .int 2, .int 0, .ref q1, .null, .null, .null])), (q1, .inl (ci.1, 5, .inl (fun _ => 0))), (q2, .inl (ci.1, 5, .inl (fun _ => 0)))]
  refine k_pq 0 (by decide +kernel) z_K_0 (kf := 5) (by decide) (mem_ALL (i := 121) rfl rfl) rfl rfl (ty := tyX0 5) (by decide +kernel) rfl rfl (k_lt rfl) rfl ?_
  show k_Go _ _ _ _ _ _ _ _ _ 29 [] 2 10 [(h0, .inr (0, [.int 6, .int 0, .int 2, .int 0, .ref q1, .ref q2, .null, .null])), (q1, .inl (ci.1, 5, .inl (fun _ => 0))), (q2, .inl (ci.1, 5, .inl (fun _ => 0)))]
  refine k_al (by decide +kernel) ?_
  refine k_ic (n := 5) (v := 5) (by decide +kernel) (by decide) ?_
  refine k_nI (N := 5) (by decide +kernel) (by decide) (by decide) (by decide) (by decide) (by decide) (fun q3 => ?_)
  show k_Go _ _ _ _ _ _ _ _ _ 33 [.ref q3, .ref h0] 3 15 [(h0, .inr (0, [.int 6, .int 0, .int 2, .int 0, .ref q1, .ref q2, .null, .null])), (q1, .inl (ci.1, 5, .inl (fun _ => 0))), (q2, .inl (ci.1, 5, .inl (fun _ => 0))), (q3, .inl (ci.1, 5, .inl (fun _ => 0)))]
  refine k_pq 0 (by decide +kernel) z_K_0 (kf := 6) (by decide) (mem_ALL (i := 123) rfl rfl) rfl rfl (ty := tyX0 6) (by decide +kernel) rfl rfl (k_lt rfl) rfl ?_
  show k_Go _ _ _ _ _ _ _ _ _ 36 [] 3 15 [(h0, .inr (0, [.int 6, .int 0, .int 2, .int 0, .ref q1, .ref q2, .ref q3, .null])), (q1, .inl (ci.1, 5, .inl (fun _ => 0))), (q2, .inl (ci.1, 5, .inl (fun _ => 0))), (q3, .inl (ci.1, 5, .inl (fun _ => 0)))]
  refine k_al (by decide +kernel) ?_
  refine k_ic (n := 5) (v := 5) (by decide +kernel) (by decide) ?_
  refine k_nI (N := 5) (by decide +kernel) (by decide) (by decide) (by decide) (by decide) (by decide) (fun q4 => ?_)
  show k_Go _ _ _ _ _ _ _ _ _ 40 [.ref q4, .ref h0] 4 20 [(h0, .inr (0, [.int 6, .int 0, .int 2, .int 0, .ref q1, .ref q2, .ref q3, .null])), (q1, .inl (ci.1, 5, .inl (fun _ => 0))), (q2, .inl (ci.1, 5, .inl (fun _ => 0))), (q3, .inl (ci.1, 5, .inl (fun _ => 0))), (q4, .inl (ci.1, 5, .inl (fun _ => 0)))]
  refine k_pq 0 (by decide +kernel) z_K_0 (kf := 7) (by decide) (mem_ALL (i := 125) rfl rfl) rfl rfl (ty := tyX0 7) (by decide +kernel) rfl rfl (k_lt rfl) rfl ?_
  show k_Go _ _ _ _ _ _ _ _ _ 43 [] 4 20 [(h0, .inr (0, [.int 6, .int 0, .int 2, .int 0, .ref q1, .ref q2, .ref q3, .ref q4])), (q1, .inl (ci.1, 5, .inl (fun _ => 0))), (q2, .inl (ci.1, 5, .inl (fun _ => 0))), (q3, .inl (ci.1, 5, .inl (fun _ => 0))), (q4, .inl (ci.1, 5, .inl (fun _ => 0)))]
  exact k_re (by decide +kernel) ⟨q1, q2, q3, q4, rfl⟩ (by decide) (by decide))
def k_w1 (ci : z_I) (h0 : Nat) (w : va_W) : Prop := ∃ q1 q2 q3 q4 q5 q6 : Nat, w = [(h0, .inr (1, [.int 0, .int 0, .int 0, .int 0, .ref q1, .ref q2, .ref q3, .ref q4, .ref q5, .ref q6])), (q1, .inl (ci.1, 10, .inl (fun _ => 0))), (q2, .inl (ci.1, 10, .inl (fun _ => 0))), (q3, .inl (ci.1, 10, .inl (fun _ => 0))), (q4, .inl (ci.1, 10, .inl (fun _ => 0))), (q5, .inl (ci.2.1, 61, .inl (fun _ => 0))), (q6, .inl (ci.1, 3, .inl (fun _ => 0)))]
set_option maxHeartbeats 4000000 in
set_option maxRecDepth 20000 in
theorem k_m1 : k_Met 1 6 104 yX1_init cX1_init (.inr (1, [.int 0, .int 0, .int 0, .int 0, .null, .null, .null, .null, .null, .null])) k_w1 := k_body (by decide +kernel) rfl (fun D ci h0 => by
  refine k_al (by decide +kernel) ?_
  refine k_oi (by decide +kernel) (mem_ALL (i := 150) rfl rfl) ?_
  show k_Go _ _ _ _ _ _ _ _ _ 4 [] 0 0 [(h0, .inr (1, [.int 0, .int 0, .int 0, .int 0, .null, .null, .null, .null, .null, .null]))]
  refine k_al (by decide +kernel) ?_
  refine k_bp (n := 10) (v := 10) (by decide +kernel) (by decide) ?_
  refine k_nI (N := 10) (by decide +kernel) (by decide) (by decide) (by decide) (by decide) (by decide) (fun q1 => ?_)
  show k_Go _ _ _ _ _ _ _ _ _ 9 [.ref q1, .ref h0] 1 10 [(h0, .inr (1, [.int 0, .int 0, .int 0, .int 0, .null, .null, .null, .null, .null, .null])), (q1, .inl (ci.1, 10, .inl (fun _ => 0)))]
  refine k_pq 0 (by decide +kernel) z_K_1 (kf := 4) (by decide) (mem_ALL (i := 159) rfl rfl) rfl rfl (ty := tyX1 4) (by decide +kernel) rfl rfl (k_lt rfl) rfl ?_
  show k_Go _ _ _ _ _ _ _ _ _ 12 [] 1 10 [(h0, .inr (1, [.int 0, .int 0, .int 0, .int 0, .ref q1, .null, .null, .null, .null, .null])), (q1, .inl (ci.1, 10, .inl (fun _ => 0)))]
  refine k_al (by decide +kernel) ?_
  refine k_bp (n := 10) (v := 10) (by decide +kernel) (by decide) ?_
  refine k_nI (N := 10) (by decide +kernel) (by decide) (by decide) (by decide) (by decide) (by decide) (fun q2 => ?_)
  show k_Go _ _ _ _ _ _ _ _ _ 17 [.ref q2, .ref h0] 2 20 [(h0, .inr (1, [.int 0, .int 0, .int 0, .int 0, .ref q1, .null, .null, .null, .null, .null])), (q1, .inl (ci.1, 10, .inl (fun _ => 0))), (q2, .inl (ci.1, 10, .inl (fun _ => 0)))]
  refine k_pq 0 (by decide +kernel) z_K_1 (kf := 5) (by decide) (mem_ALL (i := 160) rfl rfl) rfl rfl (ty := tyX1 5) (by decide +kernel) rfl rfl (k_lt rfl) rfl ?_
  show k_Go _ _ _ _ _ _ _ _ _ 20 [] 2 20 [(h0, .inr (1, [.int 0, .int 0, .int 0, .int 0, .ref q1, .ref q2, .null, .null, .null, .null])), (q1, .inl (ci.1, 10, .inl (fun _ => 0))), (q2, .inl (ci.1, 10, .inl (fun _ => 0)))]
  refine k_al (by decide +kernel) ?_
  refine k_bp (n := 10) (v := 10) (by decide +kernel) (by decide) ?_
  refine k_nI (N := 10) (by decide +kernel) (by decide) (by decide) (by decide) (by decide) (by decide) (fun q3 => ?_)
  show k_Go _ _ _ _ _ _ _ _ _ 25 [.ref q3, .ref h0] 3 30 [(h0, .inr (1, [.int 0, .int 0, .int 0, .int 0, .ref q1, .ref q2, .null, .null, .null, .null])), (q1, .inl (ci.1, 10, .inl (fun _ => 0))), (q2, .inl (ci.1, 10, .inl (fun _ => 0))), (q3, .inl (ci.1, 10, .inl (fun _ => 0)))]
  refine k_pq 0 (by decide +kernel) z_K_1 (kf := 6) (by decide) (mem_ALL (i := 161) rfl rfl) rfl rfl (ty := tyX1 6) (by decide +kernel) rfl rfl (k_lt rfl) rfl ?_
  show k_Go _ _ _ _ _ _ _ _ _ 28 [] 3 30 [(h0, .inr (1, [.int 0, .int 0, .int 0, .int 0, .ref q1, .ref q2, .ref q3, .null, .null, .null])), (q1, .inl (ci.1, 10, .inl (fun _ => 0))), (q2, .inl (ci.1, 10, .inl (fun _ => 0))), (q3, .inl (ci.1, 10, .inl (fun _ => 0)))]
  refine k_al (by decide +kernel) ?_
  refine k_bp (n := 10) (v := 10) (by decide +kernel) (by decide) ?_
  refine k_nI (N := 10) (by decide +kernel) (by decide) (by decide) (by decide) (by decide) (by decide) (fun q4 => ?_)
  show k_Go _ _ _ _ _ _ _ _ _ 33 [.ref q4, .ref h0] 4 40 [(h0, .inr (1, [.int 0, .int 0, .int 0, .int 0, .ref q1, .ref q2, .ref q3, .null, .null, .null])), (q1, .inl (ci.1, 10, .inl (fun _ => 0))), (q2, .inl (ci.1, 10, .inl (fun _ => 0))), (q3, .inl (ci.1, 10, .inl (fun _ => 0))), (q4, .inl (ci.1, 10, .inl (fun _ => 0)))]
  refine k_pq 0 (by decide +kernel) z_K_1 (kf := 7) (by decide) (mem_ALL (i := 162) rfl rfl) rfl rfl (ty := tyX1 7) (by decide +kernel) rfl rfl (k_lt rfl) rfl ?_
  show k_Go _ _ _ _ _ _ _ _ _ 36 [] 4 40 [(h0, .inr (1, [.int 0, .int 0, .int 0, .int 0, .ref q1, .ref q2, .ref q3, .ref q4, .null, .null])), (q1, .inl (ci.1, 10, .inl (fun _ => 0))), (q2, .inl (ci.1, 10, .inl (fun _ => 0))), (q3, .inl (ci.1, 10, .inl (fun _ => 0))), (q4, .inl (ci.1, 10, .inl (fun _ => 0)))]
  refine k_al (by decide +kernel) ?_
  refine k_bp (n := 61) (v := 61) (by decide +kernel) (by decide) ?_
  refine k_nZ (N := 61) (by decide +kernel) (by decide) (by decide) (by decide) (by decide) (by decide) (fun q5 => ?_)
  show k_Go _ _ _ _ _ _ _ _ _ 41 [.ref q5, .ref h0] 5 101 [(h0, .inr (1, [.int 0, .int 0, .int 0, .int 0, .ref q1, .ref q2, .ref q3, .ref q4, .null, .null])), (q1, .inl (ci.1, 10, .inl (fun _ => 0))), (q2, .inl (ci.1, 10, .inl (fun _ => 0))), (q3, .inl (ci.1, 10, .inl (fun _ => 0))), (q4, .inl (ci.1, 10, .inl (fun _ => 0))), (q5, .inl (ci.2.1, 61, .inl (fun _ => 0)))]
  refine k_pq 0 (by decide +kernel) z_K_1 (kf := 8) (by decide) (mem_ALL (i := 163) rfl rfl) rfl rfl (ty := tyX1 8) (by decide +kernel) rfl rfl (k_lt rfl) rfl ?_
  show k_Go _ _ _ _ _ _ _ _ _ 44 [] 5 101 [(h0, .inr (1, [.int 0, .int 0, .int 0, .int 0, .ref q1, .ref q2, .ref q3, .ref q4, .ref q5, .null])), (q1, .inl (ci.1, 10, .inl (fun _ => 0))), (q2, .inl (ci.1, 10, .inl (fun _ => 0))), (q3, .inl (ci.1, 10, .inl (fun _ => 0))), (q4, .inl (ci.1, 10, .inl (fun _ => 0))), (q5, .inl (ci.2.1, 61, .inl (fun _ => 0)))]
  refine k_al (by decide +kernel) ?_
  refine k_ic (n := 3) (v := 3) (by decide +kernel) (by decide) ?_
  refine k_nI (N := 3) (by decide +kernel) (by decide) (by decide) (by decide) (by decide) (by decide) (fun q6 => ?_)
  show k_Go _ _ _ _ _ _ _ _ _ 48 [.ref q6, .ref h0] 6 104 [(h0, .inr (1, [.int 0, .int 0, .int 0, .int 0, .ref q1, .ref q2, .ref q3, .ref q4, .ref q5, .null])), (q1, .inl (ci.1, 10, .inl (fun _ => 0))), (q2, .inl (ci.1, 10, .inl (fun _ => 0))), (q3, .inl (ci.1, 10, .inl (fun _ => 0))), (q4, .inl (ci.1, 10, .inl (fun _ => 0))), (q5, .inl (ci.2.1, 61, .inl (fun _ => 0))), (q6, .inl (ci.1, 3, .inl (fun _ => 0)))]
  refine k_pq 0 (by decide +kernel) z_K_1 (kf := 9) (by decide) (mem_ALL (i := 164) rfl rfl) rfl rfl (ty := tyX1 9) (by decide +kernel) rfl rfl (k_lt rfl) rfl ?_
  show k_Go _ _ _ _ _ _ _ _ _ 51 [] 6 104 [(h0, .inr (1, [.int 0, .int 0, .int 0, .int 0, .ref q1, .ref q2, .ref q3, .ref q4, .ref q5, .ref q6])), (q1, .inl (ci.1, 10, .inl (fun _ => 0))), (q2, .inl (ci.1, 10, .inl (fun _ => 0))), (q3, .inl (ci.1, 10, .inl (fun _ => 0))), (q4, .inl (ci.1, 10, .inl (fun _ => 0))), (q5, .inl (ci.2.1, 61, .inl (fun _ => 0))), (q6, .inl (ci.1, 3, .inl (fun _ => 0)))]
  exact k_re (by decide +kernel) ⟨q1, q2, q3, q4, q5, q6, rfl⟩ (by decide) (by decide))
def k_w2 (ci : z_I) (h0 : Nat) (w : va_W) : Prop := ∃ q1 q2 q3 : Nat, w = [(h0, .inr (2, [.int 0, .ref q1, .ref q2, .ref q3])), (q1, .inl (ci.1, 8, .inl (fun _ => 0))), (q2, .inl (ci.1, 8, .inl (fun _ => 0))), (q3, .inl (ci.1, 8, .inl (fun _ => 0)))]
set_option maxHeartbeats 4000000 in
set_option maxRecDepth 20000 in
theorem k_m2 : k_Met 1 3 24 yX2_init cX2_init (.inr (2, [.int 0, .null, .null, .null])) k_w2 := k_body (by decide +kernel) rfl (fun D ci h0 => by
  refine k_al (by decide +kernel) ?_
  refine k_oi (by decide +kernel) (mem_ALL (i := 192) rfl rfl) ?_
  show k_Go _ _ _ _ _ _ _ _ _ 4 [] 0 0 [(h0, .inr (2, [.int 0, .null, .null, .null]))]
  refine k_al (by decide +kernel) ?_
  refine k_bp (n := 8) (v := 8) (by decide +kernel) (by decide) ?_
  refine k_nI (N := 8) (by decide +kernel) (by decide) (by decide) (by decide) (by decide) (by decide) (fun q1 => ?_)
  show k_Go _ _ _ _ _ _ _ _ _ 9 [.ref q1, .ref h0] 1 8 [(h0, .inr (2, [.int 0, .null, .null, .null])), (q1, .inl (ci.1, 8, .inl (fun _ => 0)))]
  refine k_pq 0 (by decide +kernel) z_K_2 (kf := 1) (by decide) (mem_ALL (i := 195) rfl rfl) rfl rfl (ty := tyX2 1) (by decide +kernel) rfl rfl (k_lt rfl) rfl ?_
  show k_Go _ _ _ _ _ _ _ _ _ 12 [] 1 8 [(h0, .inr (2, [.int 0, .ref q1, .null, .null])), (q1, .inl (ci.1, 8, .inl (fun _ => 0)))]
  refine k_al (by decide +kernel) ?_
  refine k_bp (n := 8) (v := 8) (by decide +kernel) (by decide) ?_
  refine k_nI (N := 8) (by decide +kernel) (by decide) (by decide) (by decide) (by decide) (by decide) (fun q2 => ?_)
  show k_Go _ _ _ _ _ _ _ _ _ 17 [.ref q2, .ref h0] 2 16 [(h0, .inr (2, [.int 0, .ref q1, .null, .null])), (q1, .inl (ci.1, 8, .inl (fun _ => 0))), (q2, .inl (ci.1, 8, .inl (fun _ => 0)))]
  refine k_pq 0 (by decide +kernel) z_K_2 (kf := 2) (by decide) (mem_ALL (i := 196) rfl rfl) rfl rfl (ty := tyX2 2) (by decide +kernel) rfl rfl (k_lt rfl) rfl ?_
  show k_Go _ _ _ _ _ _ _ _ _ 20 [] 2 16 [(h0, .inr (2, [.int 0, .ref q1, .ref q2, .null])), (q1, .inl (ci.1, 8, .inl (fun _ => 0))), (q2, .inl (ci.1, 8, .inl (fun _ => 0)))]
  refine k_al (by decide +kernel) ?_
  refine k_bp (n := 8) (v := 8) (by decide +kernel) (by decide) ?_
  refine k_nI (N := 8) (by decide +kernel) (by decide) (by decide) (by decide) (by decide) (by decide) (fun q3 => ?_)
  show k_Go _ _ _ _ _ _ _ _ _ 25 [.ref q3, .ref h0] 3 24 [(h0, .inr (2, [.int 0, .ref q1, .ref q2, .null])), (q1, .inl (ci.1, 8, .inl (fun _ => 0))), (q2, .inl (ci.1, 8, .inl (fun _ => 0))), (q3, .inl (ci.1, 8, .inl (fun _ => 0)))]
  refine k_pq 0 (by decide +kernel) z_K_2 (kf := 3) (by decide) (mem_ALL (i := 197) rfl rfl) rfl rfl (ty := tyX2 3) (by decide +kernel) rfl rfl (k_lt rfl) rfl ?_
  show k_Go _ _ _ _ _ _ _ _ _ 28 [] 3 24 [(h0, .inr (2, [.int 0, .ref q1, .ref q2, .ref q3])), (q1, .inl (ci.1, 8, .inl (fun _ => 0))), (q2, .inl (ci.1, 8, .inl (fun _ => 0))), (q3, .inl (ci.1, 8, .inl (fun _ => 0)))]
  exact k_re (by decide +kernel) ⟨q1, q2, q3, rfl⟩ (by decide) (by decide))
def k_w4 (ci : z_I) (h0 : Nat) (w : va_W) : Prop := ∃ q1 q2 q3 q4 : Nat, w = [(h0, .inr (4, [.int 0, .int 0, .int 0, .ref q1, .int 0, .int 0, .ref q2, .ref q3, .ref q4])), (q1, .inl (ci.1, 5, .inl (fun _ => 0))), (q2, .inl (ci.1, 5, .inl (fun _ => 0))), (q3, .inl (ci.1, 12, .inl (fun _ => 0))), (q4, .inl (ci.2.2, 5, .inr (.inr (.inr (.inr (k_out q4)))))), (q4 + 1, .inl (ci.1, 12, .inl (fun _ => 0))), (q4 + 2, .inl (ci.1, 12, .inl (fun _ => 0))), (q4 + 3, .inl (ci.1, 12, .inl (fun _ => 0))), (q4 + 4, .inl (ci.1, 12, .inl (fun _ => 0))), (q4 + 5, .inl (ci.1, 12, .inl (fun _ => 0)))]
set_option maxHeartbeats 4000000 in
set_option maxRecDepth 20000 in
theorem k_m4 : k_Met 1 9 87 yX4_init cX4_init (.inr (4, [.int 0, .int 0, .int 0, .null, .int 0, .int 0, .null, .null, .null])) k_w4 := k_body (by decide +kernel) rfl (fun D ci h0 => by
  refine k_al (by decide +kernel) ?_
  refine k_oi (by decide +kernel) (mem_ALL (i := 212) rfl rfl) ?_
  show k_Go _ _ _ _ _ _ _ _ _ 4 [] 0 0 [(h0, .inr (4, [.int 0, .int 0, .int 0, .null, .int 0, .int 0, .null, .null, .null]))]
  refine k_al (by decide +kernel) ?_
  refine k_ic (n := 5) (v := 5) (by decide +kernel) (by decide) ?_
  refine k_nI (N := 5) (by decide +kernel) (by decide) (by decide) (by decide) (by decide) (by decide) (fun q1 => ?_)
  show k_Go _ _ _ _ _ _ _ _ _ 8 [.ref q1, .ref h0] 1 5 [(h0, .inr (4, [.int 0, .int 0, .int 0, .null, .int 0, .int 0, .null, .null, .null])), (q1, .inl (ci.1, 5, .inl (fun _ => 0)))]
  refine k_pq 0 (by decide +kernel) z_K_4 (kf := 3) (by decide) (mem_ALL (i := 220) rfl rfl) rfl rfl (ty := tyX4 3) (by decide +kernel) rfl rfl (k_lt rfl) rfl ?_
  show k_Go _ _ _ _ _ _ _ _ _ 11 [] 1 5 [(h0, .inr (4, [.int 0, .int 0, .int 0, .ref q1, .int 0, .int 0, .null, .null, .null])), (q1, .inl (ci.1, 5, .inl (fun _ => 0)))]
  refine k_al (by decide +kernel) ?_
  refine k_ic (n := 5) (v := 5) (by decide +kernel) (by decide) ?_
  refine k_nI (N := 5) (by decide +kernel) (by decide) (by decide) (by decide) (by decide) (by decide) (fun q2 => ?_)
  show k_Go _ _ _ _ _ _ _ _ _ 15 [.ref q2, .ref h0] 2 10 [(h0, .inr (4, [.int 0, .int 0, .int 0, .ref q1, .int 0, .int 0, .null, .null, .null])), (q1, .inl (ci.1, 5, .inl (fun _ => 0))), (q2, .inl (ci.1, 5, .inl (fun _ => 0)))]
  refine k_pq 0 (by decide +kernel) z_K_4 (kf := 6) (by decide) (mem_ALL (i := 224) rfl rfl) rfl rfl (ty := tyX4 6) (by decide +kernel) rfl rfl (k_lt rfl) rfl ?_
  show k_Go _ _ _ _ _ _ _ _ _ 18 [] 2 10 [(h0, .inr (4, [.int 0, .int 0, .int 0, .ref q1, .int 0, .int 0, .ref q2, .null, .null])), (q1, .inl (ci.1, 5, .inl (fun _ => 0))), (q2, .inl (ci.1, 5, .inl (fun _ => 0)))]
  refine k_al (by decide +kernel) ?_
  refine k_bp (n := 12) (v := 12) (by decide +kernel) (by decide) ?_
  refine k_nI (N := 12) (by decide +kernel) (by decide) (by decide) (by decide) (by decide) (by decide) (fun q3 => ?_)
  show k_Go _ _ _ _ _ _ _ _ _ 23 [.ref q3, .ref h0] 3 22 [(h0, .inr (4, [.int 0, .int 0, .int 0, .ref q1, .int 0, .int 0, .ref q2, .null, .null])), (q1, .inl (ci.1, 5, .inl (fun _ => 0))), (q2, .inl (ci.1, 5, .inl (fun _ => 0))), (q3, .inl (ci.1, 12, .inl (fun _ => 0)))]
  refine k_pq 0 (by decide +kernel) z_K_4 (kf := 7) (by decide) (mem_ALL (i := 225) rfl rfl) rfl rfl (ty := tyX4 7) (by decide +kernel) rfl rfl (k_lt rfl) rfl ?_
  show k_Go _ _ _ _ _ _ _ _ _ 26 [] 3 22 [(h0, .inr (4, [.int 0, .int 0, .int 0, .ref q1, .int 0, .int 0, .ref q2, .ref q3, .null])), (q1, .inl (ci.1, 5, .inl (fun _ => 0))), (q2, .inl (ci.1, 5, .inl (fun _ => 0))), (q3, .inl (ci.1, 12, .inl (fun _ => 0)))]
  refine k_al (by decide +kernel) ?_
  refine k_ic (n := 5) (v := 5) (by decide +kernel) (by decide) ?_
  refine k_bp (n := 12) (v := 12) (by decide +kernel) (by decide) ?_
  refine k_mn (by decide +kernel) (mem_ALL (i := 213) rfl rfl) (by decide) (by decide) (fun q4 => ?_)
  show k_Go _ _ _ _ _ _ _ _ _ 34 [.ref q4, .ref h0] 9 87 [(h0, .inr (4, [.int 0, .int 0, .int 0, .ref q1, .int 0, .int 0, .ref q2, .ref q3, .null])), (q1, .inl (ci.1, 5, .inl (fun _ => 0))), (q2, .inl (ci.1, 5, .inl (fun _ => 0))), (q3, .inl (ci.1, 12, .inl (fun _ => 0))), (q4, .inl (ci.2.2, 5, .inr (.inr (.inr (.inr (k_out q4)))))), (q4 + 1, .inl (ci.1, 12, .inl (fun _ => 0))), (q4 + 2, .inl (ci.1, 12, .inl (fun _ => 0))), (q4 + 3, .inl (ci.1, 12, .inl (fun _ => 0))), (q4 + 4, .inl (ci.1, 12, .inl (fun _ => 0))), (q4 + 5, .inl (ci.1, 12, .inl (fun _ => 0)))]
  refine k_pq 0 (by decide +kernel) z_K_4 (kf := 8) (by decide) (mem_ALL (i := 226) rfl rfl) rfl rfl (ty := tyX4 8) (by decide +kernel) rfl rfl (k_lt rfl) rfl ?_
  show k_Go _ _ _ _ _ _ _ _ _ 37 [] 9 87 [(h0, .inr (4, [.int 0, .int 0, .int 0, .ref q1, .int 0, .int 0, .ref q2, .ref q3, .ref q4])), (q1, .inl (ci.1, 5, .inl (fun _ => 0))), (q2, .inl (ci.1, 5, .inl (fun _ => 0))), (q3, .inl (ci.1, 12, .inl (fun _ => 0))), (q4, .inl (ci.2.2, 5, .inr (.inr (.inr (.inr (k_out q4)))))), (q4 + 1, .inl (ci.1, 12, .inl (fun _ => 0))), (q4 + 2, .inl (ci.1, 12, .inl (fun _ => 0))), (q4 + 3, .inl (ci.1, 12, .inl (fun _ => 0))), (q4 + 4, .inl (ci.1, 12, .inl (fun _ => 0))), (q4 + 5, .inl (ci.1, 12, .inl (fun _ => 0)))]
  exact k_re (by decide +kernel) ⟨q1, q2, q3, q4, rfl⟩ (by decide) (by decide))
def k_w3 (ci : z_I) (h0 : Nat) (w : va_W) : Prop := ∃ q1 q2 q3 q4 : Nat, w = [(h0, .inr (3, [.int 0, .int 0, .int 0, .ref q1, .int 0, .ref q2, .ref q3, .ref q4])), (q1, .inl (ci.1, 5, .inl (fun _ => 0))), (q2, .inl (ci.1, 5, .inl (fun _ => 0))), (q3, .inl (ci.1, 5, .inl (fun _ => 0))), (q4, .inl (ci.1, 5, .inl (fun _ => 0)))]
set_option maxHeartbeats 4000000 in
set_option maxRecDepth 20000 in
theorem k_m3 : k_Met 1 4 20 yX3_init cX3_init (.inr (3, [.int 0, .int 0, .int 0, .null, .int 0, .null, .null, .null])) k_w3 := k_body (by decide +kernel) rfl (fun D ci h0 => by
  refine k_al (by decide +kernel) ?_
  refine k_oi (by decide +kernel) (mem_ALL (i := 251) rfl rfl) ?_
  show k_Go _ _ _ _ _ _ _ _ _ 4 [] 0 0 [(h0, .inr (3, [.int 0, .int 0, .int 0, .null, .int 0, .null, .null, .null]))]
  refine k_al (by decide +kernel) ?_
  refine k_ic (n := 5) (v := 5) (by decide +kernel) (by decide) ?_
  refine k_nI (N := 5) (by decide +kernel) (by decide) (by decide) (by decide) (by decide) (by decide) (fun q1 => ?_)
  show k_Go _ _ _ _ _ _ _ _ _ 8 [.ref q1, .ref h0] 1 5 [(h0, .inr (3, [.int 0, .int 0, .int 0, .null, .int 0, .null, .null, .null])), (q1, .inl (ci.1, 5, .inl (fun _ => 0)))]
  refine k_pq 0 (by decide +kernel) z_K_3 (kf := 3) (by decide) (mem_ALL (i := 258) rfl rfl) rfl rfl (ty := tyX3 3) (by decide +kernel) rfl rfl (k_lt rfl) rfl ?_
  show k_Go _ _ _ _ _ _ _ _ _ 11 [] 1 5 [(h0, .inr (3, [.int 0, .int 0, .int 0, .ref q1, .int 0, .null, .null, .null])), (q1, .inl (ci.1, 5, .inl (fun _ => 0)))]
  refine k_al (by decide +kernel) ?_
  refine k_ic (n := 5) (v := 5) (by decide +kernel) (by decide) ?_
  refine k_nI (N := 5) (by decide +kernel) (by decide) (by decide) (by decide) (by decide) (by decide) (fun q2 => ?_)
  show k_Go _ _ _ _ _ _ _ _ _ 15 [.ref q2, .ref h0] 2 10 [(h0, .inr (3, [.int 0, .int 0, .int 0, .ref q1, .int 0, .null, .null, .null])), (q1, .inl (ci.1, 5, .inl (fun _ => 0))), (q2, .inl (ci.1, 5, .inl (fun _ => 0)))]
  refine k_pq 0 (by decide +kernel) z_K_3 (kf := 5) (by decide) (mem_ALL (i := 261) rfl rfl) rfl rfl (ty := tyX3 5) (by decide +kernel) rfl rfl (k_lt rfl) rfl ?_
  show k_Go _ _ _ _ _ _ _ _ _ 18 [] 2 10 [(h0, .inr (3, [.int 0, .int 0, .int 0, .ref q1, .int 0, .ref q2, .null, .null])), (q1, .inl (ci.1, 5, .inl (fun _ => 0))), (q2, .inl (ci.1, 5, .inl (fun _ => 0)))]
  refine k_al (by decide +kernel) ?_
  refine k_ic (n := 5) (v := 5) (by decide +kernel) (by decide) ?_
  refine k_nI (N := 5) (by decide +kernel) (by decide) (by decide) (by decide) (by decide) (by decide) (fun q3 => ?_)
  show k_Go _ _ _ _ _ _ _ _ _ 22 [.ref q3, .ref h0] 3 15 [(h0, .inr (3, [.int 0, .int 0, .int 0, .ref q1, .int 0, .ref q2, .null, .null])), (q1, .inl (ci.1, 5, .inl (fun _ => 0))), (q2, .inl (ci.1, 5, .inl (fun _ => 0))), (q3, .inl (ci.1, 5, .inl (fun _ => 0)))]
  refine k_pq 0 (by decide +kernel) z_K_3 (kf := 6) (by decide) (mem_ALL (i := 262) rfl rfl) rfl rfl (ty := tyX3 6) (by decide +kernel) rfl rfl (k_lt rfl) rfl ?_
  show k_Go _ _ _ _ _ _ _ _ _ 25 [] 3 15 [(h0, .inr (3, [.int 0, .int 0, .int 0, .ref q1, .int 0, .ref q2, .ref q3, .null])), (q1, .inl (ci.1, 5, .inl (fun _ => 0))), (q2, .inl (ci.1, 5, .inl (fun _ => 0))), (q3, .inl (ci.1, 5, .inl (fun _ => 0)))]
  refine k_al (by decide +kernel) ?_
  refine k_ic (n := 5) (v := 5) (by decide +kernel) (by decide) ?_
  refine k_nI (N := 5) (by decide +kernel) (by decide) (by decide) (by decide) (by decide) (by decide) (fun q4 => ?_)
  show k_Go _ _ _ _ _ _ _ _ _ 29 [.ref q4, .ref h0] 4 20 [(h0, .inr (3, [.int 0, .int 0, .int 0, .ref q1, .int 0, .ref q2, .ref q3, .null])), (q1, .inl (ci.1, 5, .inl (fun _ => 0))), (q2, .inl (ci.1, 5, .inl (fun _ => 0))), (q3, .inl (ci.1, 5, .inl (fun _ => 0))), (q4, .inl (ci.1, 5, .inl (fun _ => 0)))]
  refine k_pq 0 (by decide +kernel) z_K_3 (kf := 7) (by decide) (mem_ALL (i := 263) rfl rfl) rfl rfl (ty := tyX3 7) (by decide +kernel) rfl rfl (k_lt rfl) rfl ?_
  show k_Go _ _ _ _ _ _ _ _ _ 32 [] 4 20 [(h0, .inr (3, [.int 0, .int 0, .int 0, .ref q1, .int 0, .ref q2, .ref q3, .ref q4])), (q1, .inl (ci.1, 5, .inl (fun _ => 0))), (q2, .inl (ci.1, 5, .inl (fun _ => 0))), (q3, .inl (ci.1, 5, .inl (fun _ => 0))), (q4, .inl (ci.1, 5, .inl (fun _ => 0)))]
  exact k_re (by decide +kernel) ⟨q1, q2, q3, q4, rfl⟩ (by decide) (by decide))
def k_w5 (ci : z_I) (h0 : Nat) (w : va_W) : Prop := w = [(h0, .inr (5, [.int 0, .int 0, .int 0]))]
set_option maxHeartbeats 4000000 in
set_option maxRecDepth 20000 in
theorem k_m5 : k_Met 1 0 0 yX5_init cX5_init (.inr (5, [.int 0, .int 0, .int 0])) k_w5 := k_body (by decide +kernel) rfl (fun D ci h0 => by
  refine k_al (by decide +kernel) ?_
  refine k_oi (by decide +kernel) (mem_ALL (i := 286) rfl rfl) ?_
  show k_Go _ _ _ _ _ _ _ _ _ 4 [] 0 0 [(h0, .inr (5, [.int 0, .int 0, .int 0]))]
  exact k_re (by decide +kernel) rfl (by decide) (by decide))
