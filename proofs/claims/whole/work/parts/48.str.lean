/-! the texts' methods -/
theorem inA {w : Jvm.Cond} (h : w ∈ lw_tbl) (g : goodWord w = true) : w ∈ ALL := List.mem_filter.mpr ⟨h, g⟩
def chS (q k : Nat) : Int32 := (z_byt.getD q []).getD k 0
section
variable {d nh : Nat} {own : String} {cc : ByteArray} {nL : Nat} {scr : Option (Nat × (Nat → Int32))} {Z : z_Zt} {pc : Nat} {L : List (Nat × z_V)} {r : List z_V} {h : List z_C}
theorem y_cod {i idx : Nat} (hi : i < 5) (hd : decode cc pc = .ok (.getfield idx, 3)) (hl : Jvm.Cond.fieldLink own idx "java/lang/String" "coder" "B" ∈ ALL) (k : z_Run d nh own cc nL scr Z (pc + 3) L (.inl 0 :: r) h) : z_Run d nh own cc nL scr Z pc L (.inr (some (1000000 + i)) :: r) h := by
  intro hn p l e R s m args below meth c g A kc ks H locs ls Q C hP hS hl' hR
  obtain ⟨hvk, -⟩ := C.2.2.2.2.1
  exact vk_getf C.1.1 C.1.2.1 (hvk.1 i hi).2.1 hS C.1.2.2.2.1 (C.1.2.2.2.2 _ hl) (fun _ h => h) hd (k hn p l e R s m args below meth c g A kc ks H locs ls Q C hP hS hl' hR)
theorem y_val {i idx : Nat} (hi : i < 5) (hd : decode cc pc = .ok (.getfield idx, 3)) (hl : Jvm.Cond.fieldLink own idx "java/lang/String" "value" "[B" ∈ ALL) (k : z_Run d nh own cc nL scr Z (pc + 3) L (.inr (some (2000000 + i)) :: r) h) : z_Run d nh own cc nL scr Z pc L (.inr (some (1000000 + i)) :: r) h := by
  intro hn p l e R s m args below meth c g A kc ks H locs ls Q C hP hS hl' hR
  obtain ⟨hvk, -⟩ := C.2.2.2.2.1
  exact vk_getf C.1.1 C.1.2.1 (hvk.1 i hi).2.2.1 hS C.1.2.2.2.1 (C.1.2.2.2.2 _ hl) (fun _ h => h) hd (k hn p l e R s m args below meth c g A kc ks H locs ls Q C hP hS hl' hR)
theorem y_cps {idx : Nat} (hd : decode cc pc = .ok (.getstatic idx, 3)) (hl : Jvm.Cond.fieldLink own idx "java/lang/String" "COMPACT_STRINGS" "Z" ∈ ALL) (k : z_Run d nh own cc nL scr Z (pc + 3) L (.inl 1 :: r) h) : z_Run d nh own cc nL scr Z pc L r h := by
  intro hn p l e R s m args below meth c g A kc ks H locs ls Q C hP hS hl' hR
  obtain ⟨-, -, h3, -⟩ := C.2.2.2.2.1
  exact va_gets C.1.1 C.1.2.1 h3 hS C.1.2.2.2.1 (C.1.2.2.2.2 _ hl) (fun _ h => h) hd (k hn p l e R s m args below meth c g A kc ks H locs ls Q C hP hS hl' hR)
theorem y_fmt {idx : Nat} (hd : decode cc pc = .ok (.getstatic idx, 3)) (hl : Jvm.Cond.fieldLink own idx "jdk/internal/util/Preconditions" "SIOOBE_FORMATTER" "Ljava/util/function/BiFunction;" ∈ ALL) (k : ∀ v : Option Nat, z_Run d nh own cc nL scr Z (pc + 3) L (.inr v :: r) h) : z_Run d nh own cc nL scr Z pc L r h := by
  intro hn p l e R s m args below meth c g A kc ks H locs ls Q C hP hS hl' hR
  obtain ⟨-, -, -, h4, -⟩ := C.2.2.2.2.1
  rcases h4 with h4 | h4
  · exact va_gets C.1.1 C.1.2.1 h4 hS C.1.2.2.2.1 (C.1.2.2.2.2 _ hl) (fun _ h => h) hd (k none hn p l e R s m args below meth c g A kc ks H locs ls Q C hP hS hl' hR)
  · exact va_gets C.1.1 C.1.2.1 h4 hS C.1.2.2.2.1 (C.1.2.2.2.2 _ hl) (fun _ h => h) hd (k (some 3000000) hn p l e R s m args below meth c g A kc ks H locs ls Q C hP hS hl' hR)
theorem y_len {i : Nat} (hi : i < 5) (hd : decode cc pc = .ok (.arraylength, 1)) (k : z_Run d nh own cc nL scr Z (pc + 1) L (.inl (nI (z_len.getD i 0)) :: r) h) : z_Run d nh own cc nL scr Z pc L (.inr (some (2000000 + i)) :: r) h := by
  intro hn p l e R s m args below meth c g A kc ks H locs ls Q C hP hS hl' hR
  obtain ⟨hvk, -⟩ := C.2.2.2.2.1
  exact va_tlen C.1.1 C.1.2.1 (hvk.1 i hi).2.2.2 hS rfl hd (k hn p l e R s m args below meth c g A kc ks H locs ls Q C hP hS hl' hR)
theorem y_bld {i j : Nat} (hi : i < 5) (hj : j < z_len.getD i 0) (h31 : z_len.getD i 0 < 2 ^ 31) (hd : decode cc pc = .ok (.baload, 1)) (k : z_Run d nh own cc nL scr Z (pc + 1) L (.inl (chS i j) :: r) h) : z_Run d nh own cc nL scr Z pc L (.inl (nI j) :: .inr (some (2000000 + i)) :: r) h := by
  intro hn p l e R s m args below meth c g A kc ks H locs ls Q C hP hS hl' hR
  obtain ⟨hvk, -⟩ := C.2.2.2.2.1
  exact va_tb C.1.1 C.1.2.1 (hvk.1 i hi).2.2.2 hS (vp_in_nI hj h31) (v := .int (chS i j)) (by rw [nI_clamp (by omega)]; rfl) hd (k hn p l e R s m args below meth c g A kc ks H locs ls Q C hP hS hl' hR)
theorem y_i2c {x : Int32} (hd : decode cc pc = .ok (.i2c, 1)) (k : z_Run d nh own cc nL scr Z (pc + 1) L (.inl (x.toUInt32 % 65536).toInt32 :: r) h) : z_Run d nh own cc nL scr Z pc L (.inl x :: r) h := by
  intro hn p l e R s m args below meth c g A kc ks H locs ls Q C hP hS hl' hR
  exact lv_i2c C.1.1 C.1.2.1 hd rfl (k hn p l e R s m args below meth c g A kc ks H locs ls Q C hP hS hl' hR)
theorem y_iret {x : Int32} (hd : decode cc pc = .ok (.ireturn, 1)) (hz : Z (some (.inl x)) h) : z_Run d nh own cc nL scr Z pc L [.inl x] h := by
  intro hn p l e R s m args below meth c g A kc ks H locs ls Q C hP hS hl hR
  exact hR (some (.inl x)) h H locs pc ls hz hn hP hS hd
theorem y_vret (hd : decode cc pc = .ok (.return_, 1)) (hz : Z none h) : z_Run d nh own cc nL scr Z pc L [] h := by
  intro hn p l e R s m args below meth c g A kc ks H locs ls Q C hP hS hl hR
  exact hR none h H locs pc ls hz hn hP hS hd
end
theorem chS_c : ∀ q : Fin 5, ∀ k : Fin 5, ((chS q.val k.val &&& (Int16.ofInt 255).toInt32).toUInt32 % 65536).toInt32 = chS q.val k.val ∧ narrow .char (.int (chS q.val k.val)) = .int (chS q.val k.val) := by decide +kernel
theorem ln_c : ∀ q : Fin 5, z_len.getD q.val 0 ≤ 5 ∧ (nI (z_len.getD q.val 0) >>> ((0 : Int32) &&& 31) = nI (z_len.getD q.val 0)) ∧ (nI (z_len.getD q.val 0) = 0 ↔ q.val = 4) := by decide +kernel
section
variable {d nh : Nat} {Z : z_Zt} {h : List z_C}
theorem e_J3_checkIndex {i n : Int32} {v : Option Nat} (h0 : ¬ i < 0) (h1 : i < n) (hz : Z (some (.inl i)) h) : z_Ev d nh yJ3_checkIndex_8e157 cJ3_checkIndex_8e157 3 (some .int) [.inl i, .inl n, .inr v] h Z := by
  refine z_Ev_of (by decide +kernel) (Nat.le_of_ble_eq_true rfl) ?_
  refine z_iload_n (i := 0) (x := i) (by decide +kernel) rfl ?_
  refine z_if_lt (tgt := 9) (off := 8) (by decide +kernel) (by decide) (fun e => absurd e h0) (fun _ => ?_)
  refine z_iload_n (i := 0) (x := i) (by decide +kernel) rfl (z_iload_n (i := 1) (x := n) (by decide +kernel) rfl ?_)
  refine z_icmp_lt (tgt := 16) (off := 10) (by decide +kernel) (by decide) (fun _ => ?_) (fun e => absurd h1 e)
  exact z_iload_n (i := 0) (x := i) (by decide +kernel) rfl (y_iret (by decide +kernel) ⟨⟨_, rfl, rfl⟩, hz⟩)
theorem e_J0_checkIndex {i n : Int32} (h0 : ¬ i < 0) (h1 : i < n) (hz : Z none h) : z_Ev (d + 1) nh yJ0_checkIndex_df160 cJ0_checkIndex_df160 2 none [.inl i, .inl n] h Z := by
  refine z_Ev_of (by decide +kernel) (Nat.le_of_ble_eq_true rfl) ?_
  refine z_iload_n (i := 0) (x := i) (by decide +kernel) rfl (z_iload_n (i := 1) (x := n) (by decide +kernel) rfl ?_)
  refine y_fmt (idx := 1053) (by decide +kernel) (inA (by decide +kernel) (by decide +kernel)) (fun v => ?_)
  refine z_cS (y := yJ3_checkIndex_8e157) (cc' := cJ3_checkIndex_8e157) (nL' := 3) (ret' := some .int) (idx := 1059) (n := 3) (as := [.inl i, .inl n, .inr v]) (r := []) (by decide +kernel) (inA (by decide +kernel) (by decide +kernel)) (inA (by decide +kernel) (by decide +kernel)) (inA (by decide +kernel) (by decide +kernel)) (inA (by decide +kernel) (by decide +kernel)) (by decide +kernel) rfl (Nat.le_of_ble_eq_true rfl) (by decide) ?_
  refine e_J3_checkIndex h0 h1 ?_
  exact z_pop (by decide +kernel) (y_vret (by decide +kernel) ⟨rfl, hz⟩)
theorem e_J1_charAt {q k : Nat} (hq : q < 5) (hk : k < z_len.getD q 0) (hz : Z (some (.inl (chS q k))) h) : z_Ev (d + 2) nh yJ1_charAt_3b067 cJ1_charAt_3b067 2 (some .char) [.inr (some (2000000 + q)), .inl (nI k)] h Z := by
  have hl := (ln_c ⟨q, hq⟩).1
  have hc := chS_c ⟨q, hq⟩ ⟨k, Nat.lt_of_lt_of_le hk hl⟩
  have hl : z_len.getD q 0 ≤ 5 := hl
  refine z_Ev_of (by decide +kernel) (Nat.le_of_ble_eq_true rfl) ?_
  refine z_iload_n (i := 1) (x := nI k) (by decide +kernel) rfl (z_aload_n (i := 0) (x := 2000000 + q) (by decide +kernel) rfl (y_len hq (by decide +kernel) ?_))
  refine z_cS (y := yJ0_checkIndex_df160) (cc' := cJ0_checkIndex_df160) (nL' := 2) (ret' := none) (idx := 9) (n := 2) (as := [.inl (nI k), .inl (nI (z_len.getD q 0))]) (r := []) (by decide +kernel) (inA (by decide +kernel) (by decide +kernel)) (inA (by decide +kernel) (by decide +kernel)) (inA (by decide +kernel) (by decide +kernel)) (inA (by decide +kernel) (by decide +kernel)) (by decide +kernel) rfl (Nat.le_of_ble_eq_true rfl) (by decide) ?_
  refine e_J0_checkIndex (show ¬ nI k < nI 0 from nI_nlt (by omega) (by omega)) (nI_lt hk (by omega)) ?_
  refine z_aload_n (i := 0) (x := 2000000 + q) (by decide +kernel) rfl (z_iload_n (i := 1) (x := nI k) (by decide +kernel) rfl (y_bld hq hk (by omega) (by decide +kernel) ?_))
  refine z_sipush (n := 255) (by decide +kernel) (z_iand (by decide +kernel) (y_i2c (by decide +kernel) ?_))
  rw [hc.1]
  exact y_iret (by decide +kernel) ⟨⟨_, rfl, hc.2⟩, hz⟩
theorem e_J0_isLatin1 {q : Nat} (hq : q < 5) (hz : Z (some (.inl 1)) h) : z_Ev d nh yJ0_isLatin1_aae02 cJ0_isLatin1_aae02 1 (some .boolean) [.inr (some (1000000 + q))] h Z := by
  refine z_Ev_of (by decide +kernel) (Nat.le_of_ble_eq_true rfl) ?_
  refine y_cps (idx := 38) (by decide +kernel) (inA (by decide +kernel) (by decide +kernel)) ?_
  refine z_if_eq (tgt := 17) (off := 14) (by decide +kernel) (by decide) (fun e => absurd e (by decide)) (fun _ => ?_)
  refine z_aload_n (i := 0) (x := 1000000 + q) (by decide +kernel) rfl (y_cod (idx := 15) hq (by decide +kernel) (inA (by decide +kernel) (by decide +kernel)) ?_)
  refine z_if_ne (tgt := 17) (off := 7) (by decide +kernel) (by decide) (fun e => absurd rfl e) (fun _ => ?_)
  refine z_iconst (n := 1) (by decide +kernel) (z_goto (off := 4) (tgt := 18) (by decide +kernel) (by decide) ?_)
  exact y_iret (by decide +kernel) ⟨⟨_, rfl, rfl⟩, hz⟩
theorem e_J0_coder {q : Nat} (hq : q < 5) (hz : Z (some (.inl 0)) h) : z_Ev d nh yJ0_coder_7d493 cJ0_coder_7d493 1 (some .byte) [.inr (some (1000000 + q))] h Z := by
  refine z_Ev_of (by decide +kernel) (Nat.le_of_ble_eq_true rfl) ?_
  refine y_cps (idx := 38) (by decide +kernel) (inA (by decide +kernel) (by decide +kernel)) ?_
  refine z_if_eq (tgt := 13) (off := 10) (by decide +kernel) (by decide) (fun e => absurd e (by decide)) (fun _ => ?_)
  refine z_aload_n (i := 0) (x := 1000000 + q) (by decide +kernel) rfl (y_cod (idx := 15) hq (by decide +kernel) (inA (by decide +kernel) (by decide +kernel)) ?_)
  refine z_goto (off := 4) (tgt := 14) (by decide +kernel) (by decide) ?_
  exact y_iret (by decide +kernel) ⟨⟨_, rfl, rfl⟩, hz⟩
end
set_option maxRecDepth 20000 in
theorem s_S_isEmpty {d nh q : Nat} {h : List z_C} {Z : z_Zt} (hq : q < 5) (hz : ∀ r : Int32, z_b r (q = 4) → Z (some (.inl r)) h) : z_EvM (d + 9) nh 188 [.inr (some (1000000 + q))] h Z := by
  have hl := (ln_c ⟨q, hq⟩).2.2
  refine ⟨_, rfl, z_Ev_of (by decide +kernel) (Nat.le_of_ble_eq_true rfl) ?_⟩
  refine z_aload_n (i := 0) (x := 1000000 + q) (by decide +kernel) rfl (y_val (idx := 9) hq (by decide +kernel) (inA (by decide +kernel) (by decide +kernel)) (y_len hq (by decide +kernel) ?_))
  refine z_if_ne (tgt := 12) (off := 7) (by decide +kernel) (by decide) (fun e => ?_) (fun e => ?_)
  · exact z_iconst (n := 0) (by decide +kernel) (y_iret (by decide +kernel) ⟨⟨_, rfl, rfl⟩, hz 0 (Or.inr ⟨rfl, fun z => e (hl.mpr z)⟩)⟩)
  · refine z_iconst (n := 1) (by decide +kernel) (z_goto (off := 4) (tgt := 13) (by decide +kernel) (by decide) ?_)
    exact y_iret (by decide +kernel) ⟨⟨_, rfl, rfl⟩, hz 1 (Or.inl ⟨rfl, hl.mp e⟩)⟩
set_option maxRecDepth 20000 in
theorem s_S_length {d nh q : Nat} {h : List z_C} {Z : z_Zt} (hq : q < 5) (hz : Z (some (.inl (nI (z_len.getD q 0)))) h) : z_EvM (d + 9) nh 187 [.inr (some (1000000 + q))] h Z := by
  have hl := (ln_c ⟨q, hq⟩).2.1
  have hl : nI (z_len.getD q 0) >>> ((0 : Int32) &&& 31) = nI (z_len.getD q 0) := hl
  refine ⟨_, rfl, z_Ev_of (by decide +kernel) (Nat.le_of_ble_eq_true rfl) ?_⟩
  refine z_aload_n (i := 0) (x := 1000000 + q) (by decide +kernel) rfl (y_val (idx := 9) hq (by decide +kernel) (inA (by decide +kernel) (by decide +kernel)) (y_len hq (by decide +kernel) ?_))
  refine z_aload_n (i := 0) (x := 1000000 + q) (by decide +kernel) rfl ?_
  refine z_cT (y := yJ0_coder_7d493) (cc' := cJ0_coder_7d493) (nL' := 1) (ret' := some .byte) (idx := 335) (n := 0) (as := []) (r := [.inl (nI (z_len.getD q 0))]) hq (by decide +kernel) rfl (inA (by decide +kernel) (by decide +kernel)) (inA (by decide +kernel) (by decide +kernel)) (inA (by decide +kernel) (by decide +kernel)) (inA (by decide +kernel) (by decide +kernel)) (inA (by decide +kernel) (by decide +kernel)) (by decide +kernel) rfl (Nat.le_of_ble_eq_true rfl) (by decide) ?_
  refine e_J0_coder hq ?_
  refine z_ishr (x := nI (z_len.getD q 0)) (y := 0) (by decide +kernel) ?_
  rw [hl]
  exact y_iret (by decide +kernel) ⟨⟨_, rfl, rfl⟩, hz⟩
set_option maxRecDepth 20000 in
theorem s_S_charAt {d nh q k : Nat} {h : List z_C} {Z : z_Zt} (hq : q < 5) (hk : k < z_len.getD q 0) (hz : Z (some (.inl (chS q k))) h) : z_EvM (d + 9) nh 189 [.inr (some (1000000 + q)), .inl (nI k)] h Z := by
  have hl := (ln_c ⟨q, hq⟩).1
  have hc := (chS_c ⟨q, hq⟩ ⟨k, Nat.lt_of_lt_of_le hk hl⟩).2
  refine ⟨_, rfl, z_Ev_of (by decide +kernel) (Nat.le_of_ble_eq_true rfl) ?_⟩
  refine z_aload_n (i := 0) (x := 1000000 + q) (by decide +kernel) rfl ?_
  refine z_cT (y := yJ0_isLatin1_aae02) (cc' := cJ0_isLatin1_aae02) (nL' := 1) (ret' := some .boolean) (idx := 492) (n := 0) (as := []) (r := []) hq (by decide +kernel) rfl (inA (by decide +kernel) (by decide +kernel)) (inA (by decide +kernel) (by decide +kernel)) (inA (by decide +kernel) (by decide +kernel)) (inA (by decide +kernel) (by decide +kernel)) (inA (by decide +kernel) (by decide +kernel)) (by decide +kernel) rfl (Nat.le_of_ble_eq_true rfl) (by decide) ?_
  refine e_J0_isLatin1 hq ?_
  refine z_if_eq (x := 1) (tgt := 16) (off := 12) (by decide +kernel) (by decide) (fun e => absurd e (by decide)) (fun _ => ?_)
  refine z_aload_n (i := 0) (x := 1000000 + q) (by decide +kernel) rfl (y_val (idx := 9) hq (by decide +kernel) (inA (by decide +kernel) (by decide +kernel)) (z_iload_n (i := 1) (x := nI k) (by decide +kernel) rfl ?_))
  refine z_cS (y := yJ1_charAt_3b067) (cc' := cJ1_charAt_3b067) (nL' := 2) (ret' := some .char) (idx := 495) (n := 2) (as := [.inr (some (2000000 + q)), .inl (nI k)]) (r := []) (by decide +kernel) (inA (by decide +kernel) (by decide +kernel)) (inA (by decide +kernel) (by decide +kernel)) (inA (by decide +kernel) (by decide +kernel)) (inA (by decide +kernel) (by decide +kernel)) (by decide +kernel) rfl (Nat.le_of_ble_eq_true rfl) (by decide) ?_
  refine e_J1_charAt hq hk ?_
  exact y_iret (by decide +kernel) ⟨⟨_, rfl, hc⟩, hz⟩
