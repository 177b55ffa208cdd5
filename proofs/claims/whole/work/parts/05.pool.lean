def z_own : Nat → String
  | 0 => RX0
  | 1 => RX1
  | 2 => RX2
  | 3 => RX3
  | 4 => RX4
  | 5 => RX5
  | 6 => RX6
  | 7 => RX7
  | 8 => RX8
  | 9 => RL
  | 10 => RJ6
  | 11 => RJ9
  | _ => ""
theorem z_in_ALL {ws : List Jvm.Cond} (ps : List Nat) (hp : ws = ps.filterMap (fun i => lw_tbl[i]?)) (hg : ws.all goodWord = true) : ∀ w ∈ ws, w ∈ ALL := fun w hw => by
  have h1 := List.all_eq_true.mp hg w hw
  rw [hp] at hw
  obtain ⟨i, -, hi⟩ := List.mem_filterMap.mp hw
  exact mem_ALL hi h1
set_option maxRecDepth 20000 in
theorem z_lays_0 : ∀ w ∈ u_ws RX0 TX0 8, w ∈ ALL := z_in_ALL [128, 130, 132, 134, 136, 138, 140, 142] (by decide +kernel) (by decide +kernel)
theorem z_K_0 : z_K 0 RX0 TX0 8 := ⟨rfl, z_lays_0, ⟨tyX0, tyX0_ok⟩, nmX0⟩
set_option maxRecDepth 20000 in
theorem z_lays_1 : ∀ w ∈ u_ws RX1 TX1 10, w ∈ ALL := z_in_ALL [165, 167, 169, 171, 173, 175, 177, 179, 181, 183] (by decide +kernel) (by decide +kernel)
theorem z_K_1 : z_K 1 RX1 TX1 10 := ⟨rfl, z_lays_1, ⟨tyX1, tyX1_ok⟩, nmX1⟩
set_option maxRecDepth 20000 in
theorem z_lays_2 : ∀ w ∈ u_ws RX2 TX2 4, w ∈ ALL := z_in_ALL [198, 200, 202, 204] (by decide +kernel) (by decide +kernel)
theorem z_K_2 : z_K 2 RX2 TX2 4 := ⟨rfl, z_lays_2, ⟨tyX2, tyX2_ok⟩, nmX2⟩
set_option maxRecDepth 20000 in
theorem z_lays_3 : ∀ w ∈ u_ws RX3 TX3 8, w ∈ ALL := z_in_ALL [264, 266, 268, 270, 272, 274, 276, 278] (by decide +kernel) (by decide +kernel)
theorem z_K_3 : z_K 3 RX3 TX3 8 := ⟨rfl, z_lays_3, ⟨tyX3, tyX3_ok⟩, nmX3⟩
set_option maxRecDepth 20000 in
theorem z_lays_4 : ∀ w ∈ u_ws RX4 TX4 9, w ∈ ALL := z_in_ALL [227, 229, 231, 233, 235, 237, 239, 241, 243] (by decide +kernel) (by decide +kernel)
theorem z_K_4 : z_K 4 RX4 TX4 9 := ⟨rfl, z_lays_4, ⟨tyX4, tyX4_ok⟩, nmX4⟩
set_option maxRecDepth 20000 in
theorem z_lays_5 : ∀ w ∈ u_ws RX5 TX5 3, w ∈ ALL := z_in_ALL [292, 294, 296] (by decide +kernel) (by decide +kernel)
theorem z_K_5 : z_K 5 RX5 TX5 3 := ⟨rfl, z_lays_5, ⟨tyX5, tyX5_ok⟩, nmX5⟩
set_option maxRecDepth 20000 in
theorem z_lays_6 : ∀ w ∈ u_ws RX6 TX6 5, w ∈ ALL := z_in_ALL [91, 93, 95, 97, 99] (by decide +kernel) (by decide +kernel)
theorem z_K_6 : z_K 6 RX6 TX6 5 := ⟨rfl, z_lays_6, ⟨tyX6, tyX6_ok⟩, nmX6⟩
set_option maxRecDepth 20000 in
theorem z_lays_7 : ∀ w ∈ u_ws RX7 TX7 15, w ∈ ALL := z_in_ALL [314, 316, 318, 320, 322, 324, 326, 328, 330, 332, 334, 336, 338, 340, 342] (by decide +kernel) (by decide +kernel)
theorem z_K_7 : z_K 7 RX7 TX7 15 := ⟨rfl, z_lays_7, ⟨tyX7, tyX7_ok⟩, nmX7⟩
set_option maxRecDepth 20000 in
theorem z_lays_8 : ∀ w ∈ u_ws RX8 TX8 23, w ∈ ALL := z_in_ALL [911, 913, 915, 917, 919, 921, 923, 925, 927, 929, 931, 933, 935, 937, 939, 941, 943, 945, 947, 949, 951, 953, 955] (by decide +kernel) (by decide +kernel)
theorem z_K_8 : z_K 8 RX8 TX8 23 := ⟨rfl, z_lays_8, ⟨tyX8, tyX8_ok⟩, nmX8⟩
theorem z_K_of {ci : Nat} {C : String} {T : u_T} {N : Nat} (h : vwCl[ci]? = some (C, T, N)) : z_K ci C T N := by
  match ci, h with
  | 0, h => cases h; exact z_K_0
  | 1, h => cases h; exact z_K_1
  | 2, h => cases h; exact z_K_2
  | 3, h => cases h; exact z_K_3
  | 4, h => cases h; exact z_K_4
  | 5, h => cases h; exact z_K_5
  | 6, h => cases h; exact z_K_6
  | 7, h => cases h; exact z_K_7
  | 8, h => cases h; exact z_K_8
  | n + 9, h => cases h
def z_frl : List (Nat × Nat × Nat × Nat × Nat × Nat) := [(6, 9, 6, 0, 2, 82), (6, 16, 6, 1, 0, 83), (7, 89, 6, 1, 0, 84), (6, 24, 6, 2, 0, 85), (7, 295, 6, 2, 0, 86), (6, 34, 6, 3, 0, 87), (7, 301, 6, 3, 0, 88), (6, 13, 6, 4, 2, 89), (7, 304, 6, 4, 2, 90), (0, 9, 0, 0, 0, 109), (7, 285, 0, 0, 0, 110), (0, 31, 0, 1, 0, 111), (7, 288, 0, 1, 0, 112), (0, 15, 0, 2, 0, 113), (7, 129, 0, 2, 0, 114), (3, 31, 0, 3, 0, 115), (0, 34, 0, 3, 0, 116), (4, 30, 0, 3, 0, 117), (7, 279, 0, 3, 0, 118), (0, 18, 0, 4, 2, 119), (7, 104, 0, 4, 2, 120), (0, 22, 0, 5, 2, 121), (7, 107, 0, 5, 2, 122), (0, 25, 0, 6, 2, 123), (7, 110, 0, 6, 2, 124), (0, 28, 0, 7, 2, 125), (3, 40, 0, 7, 2, 126), (7, 119, 0, 7, 2, 127), (1, 31, 1, 0, 0, 151), (7, 186, 1, 0, 0, 152), (1, 45, 1, 1, 0, 153), (7, 188, 1, 1, 0, 154), (1, 48, 1, 2, 0, 155), (7, 191, 1, 2, 0, 156), (1, 51, 1, 3, 0, 157), (7, 194, 1, 3, 0, 158), (1, 11, 1, 4, 2, 159), (1, 15, 1, 5, 2, 160), (1, 18, 1, 6, 2, 161), (1, 21, 1, 7, 2, 162), (1, 24, 1, 8, 2, 163), (1, 28, 1, 9, 2, 164), (2, 19, 2, 0, 0, 193), (7, 253, 2, 0, 0, 194), (2, 9, 2, 1, 2, 195), (2, 13, 2, 2, 2, 196), (2, 16, 2, 3, 2, 197), (4, 26, 4, 0, 1, 215), (4, 52, 4, 1, 0, 216), (7, 145, 4, 1, 0, 217), (4, 55, 4, 2, 0, 218), (7, 148, 4, 2, 0, 219), (4, 9, 4, 3, 2, 220), (7, 151, 4, 3, 2, 221), (4, 36, 4, 4, 0, 222), (4, 41, 4, 5, 0, 223), (4, 15, 4, 6, 2, 224), (4, 18, 4, 7, 2, 225), (4, 23, 4, 8, 2, 226), (3, 28, 3, 0, 0, 252), (7, 174, 3, 0, 0, 253), (3, 47, 3, 1, 0, 254), (7, 171, 3, 1, 0, 255), (3, 51, 3, 2, 0, 256), (7, 176, 3, 2, 0, 257), (3, 9, 3, 3, 2, 258), (7, 175, 3, 3, 2, 259), (3, 24, 3, 4, 0, 260), (3, 15, 3, 5, 2, 261), (3, 18, 3, 6, 2, 262), (3, 21, 3, 7, 2, 263), (5, 9, 5, 0, 0, 287), (7, 213, 5, 0, 0, 288), (5, 15, 5, 1, 0, 289), (7, 216, 5, 1, 0, 290), (5, 33, 5, 2, 0, 291), (7, 10, 7, 0, 2, 299), (7, 19, 7, 1, 2, 300), (7, 23, 7, 2, 2, 301), (7, 26, 7, 3, 2, 302), (7, 32, 7, 4, 2, 303), (7, 36, 7, 5, 2, 304), (7, 42, 7, 6, 2, 305), (7, 46, 7, 7, 2, 306), (7, 52, 7, 8, 2, 307), (7, 59, 7, 9, 2, 308), (7, 66, 7, 10, 2, 309), (7, 70, 7, 11, 2, 310), (7, 74, 7, 12, 2, 311), (7, 263, 7, 13, 0, 312), (7, 275, 7, 14, 1, 313), (8, 7, 8, 0, 2, 888), (8, 13, 8, 1, 2, 889), (8, 16, 8, 2, 2, 890), (8, 19, 8, 3, 2, 891), (8, 219, 8, 4, 1, 892), (8, 22, 8, 5, 2, 893), (8, 25, 8, 6, 2, 894), (8, 64, 8, 7, 0, 895), (8, 72, 8, 8, 0, 896), (8, 28, 8, 9, 2, 897), (8, 31, 8, 10, 2, 898), (8, 34, 8, 11, 2, 899), (8, 146, 8, 12, 0, 900), (8, 149, 8, 13, 0, 901), (8, 37, 8, 14, 2, 902), (8, 165, 8, 15, 0, 903), (8, 162, 8, 16, 0, 904), (8, 40, 8, 17, 2, 905), (8, 189, 8, 18, 0, 906), (8, 192, 8, 19, 0, 907), (8, 43, 8, 20, 2, 908), (8, 46, 8, 21, 2, 909), (8, 216, 8, 22, 0, 910)]
def z_fchk (e : Nat × Nat × Nat × Nat × Nat × Nat) : Bool := match vwCl[e.2.2.1]? with
  | none => false
  | some q => decide (e.2.2.2.1 < q.2.2) && decide (lw_tbl[e.2.2.2.2.2]? = some (Jvm.Cond.fieldLink (z_own e.1) e.2.1 (q.2.1 e.2.2.2.1).1 (q.2.1 e.2.2.2.1).2.1 (q.2.1 e.2.2.2.1).2.2.1)) && (decide (e.2.2.2.2.1 = 2) || (!(q.2.1 e.2.2.2.1).2.2.2 && decide (parseFieldDescriptor (q.2.1 e.2.2.2.1).2.2.1 = some (if e.2.2.2.2.1 = 0 then .int else .boolean))))
set_option maxRecDepth 20000 in
theorem z_frl_ok : z_frl.all z_fchk = true := by decide +kernel
def z_frf : List (Nat × Nat × Nat × Nat × Nat × Nat) → Nat → Nat → Option (Nat × Nat × Nat)
  | [], _, _ => none
  | e :: t, c, i => bif Nat.beq e.1 c && Nat.beq e.2.1 i then some (e.2.2.1, e.2.2.2.1, e.2.2.2.2.1) else z_frf t c i
def z_fr (c i : Nat) : Option (Nat × Nat × Nat) := z_frf z_frl c i
theorem z_frf_mem {c i : Nat} {q : Nat × Nat × Nat} : ∀ {l : List (Nat × Nat × Nat × Nat × Nat × Nat)}, z_frf l c i = some q → ∃ p, (c, i, q.1, q.2.1, q.2.2, p) ∈ l
  | [], h => by cases h
  | e :: t, h => by
    unfold z_frf at h
    cases hb : (Nat.beq e.1 c && Nat.beq e.2.1 i) with
    | true =>
      rw [hb] at h
      cases h
      obtain ⟨h1, h2⟩ := Bool.and_eq_true_iff.mp hb
      rw [← Nat.eq_of_beq_eq_true h1, ← Nat.eq_of_beq_eq_true h2]
      exact ⟨e.2.2.2.2.2, List.mem_cons_self⟩
    | false =>
      rw [hb] at h
      obtain ⟨p, hp⟩ := z_frf_mem h
      exact ⟨p, List.mem_cons_of_mem _ hp⟩
theorem z_fr_ok {c i ci k tg : Nat} (h : z_fr c i = some (ci, k, tg)) : ∃ (C : String) (T : u_T) (N : Nat), z_K ci C T N ∧ k < N ∧ Jvm.Cond.fieldLink (z_own c) i (T k).1 (T k).2.1 (T k).2.2.1 ∈ ALL ∧ (tg = 2 ∨ ((T k).2.2.2 = false ∧ parseFieldDescriptor (T k).2.2.1 = some (if tg = 0 then .int else .boolean))) := by
  obtain ⟨p, hp⟩ := z_frf_mem h
  have hc := List.all_eq_true.mp z_frl_ok _ hp
  unfold z_fchk at hc
  dsimp only at hc
  cases hv : vwCl[ci]? with
  | none => rw [hv] at hc; cases hc
  | some q =>
    rw [hv] at hc
    obtain ⟨C, T, N⟩ := q
    dsimp only at hc
    obtain ⟨h12, h3⟩ := Bool.and_eq_true_iff.mp hc
    obtain ⟨h1, h2⟩ := Bool.and_eq_true_iff.mp h12
    refine ⟨C, T, N, z_K_of hv, of_decide_eq_true h1, mem_ALL (of_decide_eq_true h2) rfl, ?_⟩
    rcases Bool.or_eq_true_iff.mp h3 with h3 | h3
    · exact Or.inl (of_decide_eq_true h3)
    · obtain ⟨h4, h5⟩ := Bool.and_eq_true_iff.mp h3
      exact Or.inr ⟨by simpa using h4, of_decide_eq_true h5⟩
abbrev z_MT : Type := MethodName × ByteArray × Nat × Option FieldType × Nat × Nat × Nat
def z_mok (e : z_MT) : Prop := Jvm.Cond.code e.1 e.2.1 e.2.2.1 e.2.2.2.1 ∈ ALL ∧ Jvm.Cond.initialized e.1.cls ∈ ALL ∧ (e.1.cls ≠ "java/lang/invoke/MethodHandle" ∧ e.1.cls ≠ "java/lang/invoke/VarHandle" ∧ (parseMethodDescriptor e.1.desc).map (fun d => d.parameters.length) = some e.2.2.2.2.2.2) ∧ e.2.2.1 ≤ 40 ∧ plainName e.1.cls = true ∧
  (e.2.2.2.2.1 = 0 → Jvm.Cond.instanceMethod e.1 ∈ ALL ∧ Jvm.Cond.selects e.1.cls e.1 e.1 ∈ ALL ∧ ∃ T N, vwCl[e.2.2.2.2.2.1]? = some (e.1.cls, T, N)) ∧ (e.2.2.2.2.1 = 1 → Jvm.Cond.static e.1 ∈ ALL) ∧ (e.2.2.2.2.1 = 2 → Jvm.Cond.instanceMethod e.1 ∈ ALL ∧ Jvm.Cond.selects e.1.cls e.1 e.1 ∈ ALL ∧ e.1.cls = "java/lang/String")
def z_m0 : z_MT := (yX0_become, cX0_become, 2, none, 0, 0, 1)
set_option maxRecDepth 20000 in
theorem z_mk0 : z_mok z_m0 := ⟨mem_ALL (i := 465) rfl rfl, mem_ALL (i := 54) rfl rfl, by decide +kernel, by decide +kernel, by decide +kernel, (fun _ => ⟨mem_ALL (i := 463) rfl rfl, mem_ALL (i := 464) rfl rfl, _, _, rfl⟩), (fun h => by cases h), (fun h => by cases h)⟩
def z_m1 : z_MT := (yX0_hasChild, cX0_hasChild, 2, (some .boolean), 0, 0, 1)
set_option maxRecDepth 20000 in
theorem z_mk1 : z_mok z_m1 := ⟨mem_ALL (i := 496) rfl rfl, mem_ALL (i := 54) rfl rfl, by decide +kernel, by decide +kernel, by decide +kernel, (fun _ => ⟨mem_ALL (i := 494) rfl rfl, mem_ALL (i := 495) rfl rfl, _, _, rfl⟩), (fun h => by cases h), (fun h => by cases h)⟩
def z_m2 : z_MT := (yX0_hasSeat, cX0_hasSeat, 2, (some .boolean), 0, 0, 1)
set_option maxRecDepth 20000 in
theorem z_mk2 : z_mok z_m2 := ⟨mem_ALL (i := 500) rfl rfl, mem_ALL (i := 54) rfl rfl, by decide +kernel, by decide +kernel, by decide +kernel, (fun _ => ⟨mem_ALL (i := 498) rfl rfl, mem_ALL (i := 499) rfl rfl, _, _, rfl⟩), (fun h => by cases h), (fun h => by cases h)⟩
def z_m3 : z_MT := (yX0_sits, cX0_sits, 2, (some .boolean), 0, 0, 1)
set_option maxRecDepth 20000 in
theorem z_mk3 : z_mok z_m3 := ⟨mem_ALL (i := 535) rfl rfl, mem_ALL (i := 54) rfl rfl, by decide +kernel, by decide +kernel, by decide +kernel, (fun _ => ⟨mem_ALL (i := 533) rfl rfl, mem_ALL (i := 534) rfl rfl, _, _, rfl⟩), (fun h => by cases h), (fun h => by cases h)⟩
def z_m4 : z_MT := (yX0_isTaken, cX0_isTaken, 2, (some .boolean), 0, 0, 1)
set_option maxRecDepth 20000 in
theorem z_mk4 : z_mok z_m4 := ⟨mem_ALL (i := 635) rfl rfl, mem_ALL (i := 54) rfl rfl, by decide +kernel, by decide +kernel, by decide +kernel, (fun _ => ⟨mem_ALL (i := 633) rfl rfl, mem_ALL (i := 634) rfl rfl, _, _, rfl⟩), (fun h => by cases h), (fun h => by cases h)⟩
def z_m5 : z_MT := (yX0_isTakenByOther, cX0_isTakenByOther, 4, (some .boolean), 0, 0, 2)
set_option maxRecDepth 20000 in
theorem z_mk5 : z_mok z_m5 := ⟨mem_ALL (i := 504) rfl rfl, mem_ALL (i := 54) rfl rfl, by decide +kernel, by decide +kernel, by decide +kernel, (fun _ => ⟨mem_ALL (i := 502) rfl rfl, mem_ALL (i := 503) rfl rfl, _, _, rfl⟩), (fun h => by cases h), (fun h => by cases h)⟩
def z_m6 : z_MT := (yX0_sitters, cX0_sitters, 3, (some .int), 0, 0, 0)
set_option maxRecDepth 20000 in
theorem z_mk6 : z_mok z_m6 := ⟨mem_ALL (i := 881) rfl rfl, mem_ALL (i := 54) rfl rfl, by decide +kernel, by decide +kernel, by decide +kernel, (fun _ => ⟨mem_ALL (i := 879) rfl rfl, mem_ALL (i := 880) rfl rfl, _, _, rfl⟩), (fun h => by cases h), (fun h => by cases h)⟩
def z_m7 : z_MT := (yX0_seatsMany, cX0_seatsMany, 1, (some .int), 0, 0, 0)
set_option maxRecDepth 20000 in
theorem z_mk7 : z_mok z_m7 := ⟨mem_ALL (i := 593) rfl rfl, mem_ALL (i := 54) rfl rfl, by decide +kernel, by decide +kernel, by decide +kernel, (fun _ => ⟨mem_ALL (i := 591) rfl rfl, mem_ALL (i := 592) rfl rfl, _, _, rfl⟩), (fun h => by cases h), (fun h => by cases h)⟩
def z_m8 : z_MT := (yX0_seatFromLeft, cX0_seatFromLeft, 2, (some .int), 0, 0, 1)
set_option maxRecDepth 20000 in
theorem z_mk8 : z_mok z_m8 := ⟨mem_ALL (i := 597) rfl rfl, mem_ALL (i := 54) rfl rfl, by decide +kernel, by decide +kernel, by decide +kernel, (fun _ => ⟨mem_ALL (i := 595) rfl rfl, mem_ALL (i := 596) rfl rfl, _, _, rfl⟩), (fun h => by cases h), (fun h => by cases h)⟩
def z_m9 : z_MT := (yX0_armOf, cX0_armOf, 2, (some .int), 0, 0, 1)
set_option maxRecDepth 20000 in
theorem z_mk9 : z_mok z_m9 := ⟨mem_ALL (i := 605) rfl rfl, mem_ALL (i := 54) rfl rfl, by decide +kernel, by decide +kernel, by decide +kernel, (fun _ => ⟨mem_ALL (i := 603) rfl rfl, mem_ALL (i := 604) rfl rfl, _, _, rfl⟩), (fun h => by cases h), (fun h => by cases h)⟩
def z_m10 : z_MT := (yX0_ownTurn, cX0_ownTurn, 1, (some .int), 0, 0, 0)
set_option maxRecDepth 20000 in
theorem z_mk10 : z_mok z_m10 := ⟨mem_ALL (i := 609) rfl rfl, mem_ALL (i := 54) rfl rfl, by decide +kernel, by decide +kernel, by decide +kernel, (fun _ => ⟨mem_ALL (i := 607) rfl rfl, mem_ALL (i := 608) rfl rfl, _, _, rfl⟩), (fun h => by cases h), (fun h => by cases h)⟩
def z_m11 : z_MT := (yX0_turned, cX0_turned, 1, (some .int), 0, 0, 0)
set_option maxRecDepth 20000 in
theorem z_mk11 : z_mok z_m11 := ⟨mem_ALL (i := 553) rfl rfl, mem_ALL (i := 54) rfl rfl, by decide +kernel, by decide +kernel, by decide +kernel, (fun _ => ⟨mem_ALL (i := 551) rfl rfl, mem_ALL (i := 552) rfl rfl, _, _, rfl⟩), (fun h => by cases h), (fun h => by cases h)⟩
def z_m12 : z_MT := (yX0_turnedBy, cX0_turnedBy, 4, (some .int), 0, 0, 1)
set_option maxRecDepth 20000 in
theorem z_mk12 : z_mok z_m12 := ⟨mem_ALL (i := 557) rfl rfl, mem_ALL (i := 54) rfl rfl, by decide +kernel, by decide +kernel, by decide +kernel, (fun _ => ⟨mem_ALL (i := 555) rfl rfl, mem_ALL (i := 556) rfl rfl, _, _, rfl⟩), (fun h => by cases h), (fun h => by cases h)⟩
def z_m13 : z_MT := (yX0_turnOn, cX0_turnOn, 3, (some .int), 0, 0, 2)
set_option maxRecDepth 20000 in
theorem z_mk13 : z_mok z_m13 := ⟨mem_ALL (i := 601) rfl rfl, mem_ALL (i := 54) rfl rfl, by decide +kernel, by decide +kernel, by decide +kernel, (fun _ => ⟨mem_ALL (i := 599) rfl rfl, mem_ALL (i := 600) rfl rfl, _, _, rfl⟩), (fun h => by cases h), (fun h => by cases h)⟩
def z_m14 : z_MT := (yX0_slowness, cX0_slowness, 4, (some .int), 0, 0, 0)
set_option maxRecDepth 20000 in
theorem z_mk14 : z_mok z_m14 := ⟨mem_ALL (i := 731) rfl rfl, mem_ALL (i := 54) rfl rfl, by decide +kernel, by decide +kernel, by decide +kernel, (fun _ => ⟨mem_ALL (i := 729) rfl rfl, mem_ALL (i := 730) rfl rfl, _, _, rfl⟩), (fun h => by cases h), (fun h => by cases h)⟩
def z_m15 : z_MT := (yX0_legsOn, cX0_legsOn, 4, (some .int), 0, 0, 1)
set_option maxRecDepth 20000 in
theorem z_mk15 : z_mok z_m15 := ⟨mem_ALL (i := 767) rfl rfl, mem_ALL (i := 54) rfl rfl, by decide +kernel, by decide +kernel, by decide +kernel, (fun _ => ⟨mem_ALL (i := 765) rfl rfl, mem_ALL (i := 766) rfl rfl, _, _, rfl⟩), (fun h => by cases h), (fun h => by cases h)⟩
def z_m16 : z_MT := (yX0_takes, cX0_takes, 3, (some .boolean), 0, 0, 2)
set_option maxRecDepth 20000 in
theorem z_mk16 : z_mok z_m16 := ⟨mem_ALL (i := 473) rfl rfl, mem_ALL (i := 54) rfl rfl, by decide +kernel, by decide +kernel, by decide +kernel, (fun _ => ⟨mem_ALL (i := 471) rfl rfl, mem_ALL (i := 472) rfl rfl, _, _, rfl⟩), (fun h => by cases h), (fun h => by cases h)⟩
def z_m17 : z_MT := (yX0_sitByDraws, cX0_sitByDraws, 5, (some .int), 0, 0, 1)
set_option maxRecDepth 20000 in
theorem z_mk17 : z_mok z_m17 := ⟨mem_ALL (i := 833) rfl rfl, mem_ALL (i := 54) rfl rfl, by decide +kernel, by decide +kernel, by decide +kernel, (fun _ => ⟨mem_ALL (i := 831) rfl rfl, mem_ALL (i := 832) rfl rfl, _, _, rfl⟩), (fun h => by cases h), (fun h => by cases h)⟩
def z_m18 : z_MT := (yX0_drawn, cX0_drawn, 2, (some .int), 1, 0, 2)
set_option maxRecDepth 20000 in
theorem z_mk18 : z_mok z_m18 := ⟨mem_ALL (i := 839) rfl rfl, mem_ALL (i := 54) rfl rfl, by decide +kernel, by decide +kernel, by decide +kernel, (fun h => by cases h), (fun _ => mem_ALL (i := 838) rfl rfl), (fun h => by cases h)⟩
def z_m19 : z_MT := (yX0_ownTurnBy, cX0_ownTurnBy, 2, (some .int), 0, 0, 1)
set_option maxRecDepth 20000 in
theorem z_mk19 : z_mok z_m19 := ⟨mem_ALL (i := 561) rfl rfl, mem_ALL (i := 54) rfl rfl, by decide +kernel, by decide +kernel, by decide +kernel, (fun _ => ⟨mem_ALL (i := 560) rfl rfl, mem_ALL (i := 11) rfl rfl, _, _, rfl⟩), (fun h => by cases h), (fun h => by cases h)⟩
def z_m20 : z_MT := (yX0_turnOf, cX0_turnOf, 3, (some .int), 1, 0, 3)
set_option maxRecDepth 20000 in
theorem z_mk20 : z_mok z_m20 := ⟨mem_ALL (i := 565) rfl rfl, mem_ALL (i := 54) rfl rfl, by decide +kernel, by decide +kernel, by decide +kernel, (fun h => by cases h), (fun _ => mem_ALL (i := 564) rfl rfl), (fun h => by cases h)⟩
def z_m21 : z_MT := (yX0_hangerTurn, cX0_hangerTurn, 2, (some .int), 1, 0, 2)
set_option maxRecDepth 20000 in
theorem z_mk21 : z_mok z_m21 := ⟨mem_ALL (i := 568) rfl rfl, mem_ALL (i := 54) rfl rfl, by decide +kernel, by decide +kernel, by decide +kernel, (fun h => by cases h), (fun _ => mem_ALL (i := 567) rfl rfl), (fun h => by cases h)⟩
def z_m22 : z_MT := (yX0_inTurn, cX0_inTurn, 2, (some .int), 1, 0, 2)
set_option maxRecDepth 20000 in
theorem z_mk22 : z_mok z_m22 := ⟨mem_ALL (i := 571) rfl rfl, mem_ALL (i := 54) rfl rfl, by decide +kernel, by decide +kernel, by decide +kernel, (fun h => by cases h), (fun _ => mem_ALL (i := 570) rfl rfl), (fun h => by cases h)⟩
def z_m23 : z_MT := (yX0_takesLength, cX0_takesLength, 4, (some .boolean), 0, 0, 2)
set_option maxRecDepth 20000 in
theorem z_mk23 : z_mok z_m23 := ⟨mem_ALL (i := 477) rfl rfl, mem_ALL (i := 54) rfl rfl, by decide +kernel, by decide +kernel, by decide +kernel, (fun _ => ⟨mem_ALL (i := 476) rfl rfl, mem_ALL (i := 5) rfl rfl, _, _, rfl⟩), (fun h => by cases h), (fun h => by cases h)⟩
def z_m24 : z_MT := (yX0_takesNotch, cX0_takesNotch, 2, (some .boolean), 0, 0, 1)
set_option maxRecDepth 20000 in
theorem z_mk24 : z_mok z_m24 := ⟨mem_ALL (i := 484) rfl rfl, mem_ALL (i := 54) rfl rfl, by decide +kernel, by decide +kernel, by decide +kernel, (fun _ => ⟨mem_ALL (i := 483) rfl rfl, mem_ALL (i := 6) rfl rfl, _, _, rfl⟩), (fun h => by cases h), (fun h => by cases h)⟩
def z_m25 : z_MT := (yX0_takesChild, cX0_takesChild, 4, (some .boolean), 0, 0, 3)
set_option maxRecDepth 20000 in
theorem z_mk25 : z_mok z_m25 := ⟨mem_ALL (i := 488) rfl rfl, mem_ALL (i := 54) rfl rfl, by decide +kernel, by decide +kernel, by decide +kernel, (fun _ => ⟨mem_ALL (i := 487) rfl rfl, mem_ALL (i := 7) rfl rfl, _, _, rfl⟩), (fun h => by cases h), (fun h => by cases h)⟩
def z_m26 : z_MT := (yX0_takesSeat, cX0_takesSeat, 3, (some .boolean), 0, 0, 2)
set_option maxRecDepth 20000 in
theorem z_mk26 : z_mok z_m26 := ⟨mem_ALL (i := 492) rfl rfl, mem_ALL (i := 54) rfl rfl, by decide +kernel, by decide +kernel, by decide +kernel, (fun _ => ⟨mem_ALL (i := 491) rfl rfl, mem_ALL (i := 8) rfl rfl, _, _, rfl⟩), (fun h => by cases h), (fun h => by cases h)⟩
def z_m27 : z_MT := (yX0_takesOff, cX0_takesOff, 2, (some .boolean), 0, 0, 1)
set_option maxRecDepth 20000 in
theorem z_mk27 : z_mok z_m27 := ⟨mem_ALL (i := 508) rfl rfl, mem_ALL (i := 54) rfl rfl, by decide +kernel, by decide +kernel, by decide +kernel, (fun _ => ⟨mem_ALL (i := 507) rfl rfl, mem_ALL (i := 9) rfl rfl, _, _, rfl⟩), (fun h => by cases h), (fun h => by cases h)⟩
def z_m28 : z_MT := (yX1_become, cX1_become, 2, none, 0, 1, 1)
set_option maxRecDepth 20000 in
theorem z_mk28 : z_mok z_m28 := ⟨mem_ALL (i := 863) rfl rfl, mem_ALL (i := 55) rfl rfl, by decide +kernel, by decide +kernel, by decide +kernel, (fun _ => ⟨mem_ALL (i := 861) rfl rfl, mem_ALL (i := 862) rfl rfl, _, _, rfl⟩), (fun h => by cases h), (fun h => by cases h)⟩
def z_m29 : z_MT := (yX1_isFull, cX1_isFull, 1, (some .boolean), 0, 1, 0)
set_option maxRecDepth 20000 in
theorem z_mk29 : z_mok z_m29 := ⟨mem_ALL (i := 689) rfl rfl, mem_ALL (i := 55) rfl rfl, by decide +kernel, by decide +kernel, by decide +kernel, (fun _ => ⟨mem_ALL (i := 687) rfl rfl, mem_ALL (i := 688) rfl rfl, _, _, rfl⟩), (fun h => by cases h), (fun h => by cases h)⟩
def z_m30 : z_MT := (yX1_add, cX1_add, 5, none, 0, 1, 4)
set_option maxRecDepth 20000 in
theorem z_mk30 : z_mok z_m30 := ⟨mem_ALL (i := 693) rfl rfl, mem_ALL (i := 55) rfl rfl, by decide +kernel, by decide +kernel, by decide +kernel, (fun _ => ⟨mem_ALL (i := 691) rfl rfl, mem_ALL (i := 692) rfl rfl, _, _, rfl⟩), (fun h => by cases h), (fun h => by cases h)⟩
def z_m31 : z_MT := (yX1_look, cX1_look, 3, none, 0, 1, 1)
set_option maxRecDepth 20000 in
theorem z_mk31 : z_mok z_m31 := ⟨mem_ALL (i := 702) rfl rfl, mem_ALL (i := 55) rfl rfl, by decide +kernel, by decide +kernel, by decide +kernel, (fun _ => ⟨mem_ALL (i := 700) rfl rfl, mem_ALL (i := 701) rfl rfl, _, _, rfl⟩), (fun h => by cases h), (fun h => by cases h)⟩
def z_m32 : z_MT := (yX1_bestBucket, cX1_bestBucket, 8, (some .int), 0, 1, 3)
set_option maxRecDepth 20000 in
theorem z_mk32 : z_mok z_m32 := ⟨mem_ALL (i := 717) rfl rfl, mem_ALL (i := 55) rfl rfl, by decide +kernel, by decide +kernel, by decide +kernel, (fun _ => ⟨mem_ALL (i := 715) rfl rfl, mem_ALL (i := 716) rfl rfl, _, _, rfl⟩), (fun h => by cases h), (fun h => by cases h)⟩
def z_m33 : z_MT := (yX1_greatestPart, cX1_greatestPart, 4, (some .int), 0, 1, 2)
set_option maxRecDepth 20000 in
theorem z_mk33 : z_mok z_m33 := ⟨mem_ALL (i := 722) rfl rfl, mem_ALL (i := 55) rfl rfl, by decide +kernel, by decide +kernel, by decide +kernel, (fun _ => ⟨mem_ALL (i := 721) rfl rfl, mem_ALL (i := 17) rfl rfl, _, _, rfl⟩), (fun h => by cases h), (fun h => by cases h)⟩
def z_m34 : z_MT := (yX1_fit, cX1_fit, 6, (some .boolean), 0, 1, 2)
set_option maxRecDepth 20000 in
theorem z_mk34 : z_mok z_m34 := ⟨mem_ALL (i := 706) rfl rfl, mem_ALL (i := 55) rfl rfl, by decide +kernel, by decide +kernel, by decide +kernel, (fun _ => ⟨mem_ALL (i := 705) rfl rfl, mem_ALL (i := 16) rfl rfl, _, _, rfl⟩), (fun h => by cases h), (fun h => by cases h)⟩
def z_m35 : z_MT := (yX2_become, cX2_become, 2, none, 0, 2, 1)
set_option maxRecDepth 20000 in
theorem z_mk35 : z_mok z_m35 := ⟨mem_ALL (i := 868) rfl rfl, mem_ALL (i := 56) rfl rfl, by decide +kernel, by decide +kernel, by decide +kernel, (fun _ => ⟨mem_ALL (i := 866) rfl rfl, mem_ALL (i := 867) rfl rfl, _, _, rfl⟩), (fun h => by cases h), (fun h => by cases h)⟩
def z_m36 : z_MT := (yX2_isFull, cX2_isFull, 1, (some .boolean), 0, 2, 0)
set_option maxRecDepth 20000 in
theorem z_mk36 : z_mok z_m36 := ⟨mem_ALL (i := 811) rfl rfl, mem_ALL (i := 56) rfl rfl, by decide +kernel, by decide +kernel, by decide +kernel, (fun _ => ⟨mem_ALL (i := 809) rfl rfl, mem_ALL (i := 810) rfl rfl, _, _, rfl⟩), (fun h => by cases h), (fun h => by cases h)⟩
def z_m37 : z_MT := (yX2_add, cX2_add, 4, none, 0, 2, 3)
set_option maxRecDepth 20000 in
theorem z_mk37 : z_mok z_m37 := ⟨mem_ALL (i := 815) rfl rfl, mem_ALL (i := 56) rfl rfl, by decide +kernel, by decide +kernel, by decide +kernel, (fun _ => ⟨mem_ALL (i := 813) rfl rfl, mem_ALL (i := 814) rfl rfl, _, _, rfl⟩), (fun h => by cases h), (fun h => by cases h)⟩
def z_m38 : z_MT := (yX2_fit, cX2_fit, 3, (some .boolean), 0, 2, 1)
set_option maxRecDepth 20000 in
theorem z_mk38 : z_mok z_m38 := ⟨mem_ALL (i := 824) rfl rfl, mem_ALL (i := 56) rfl rfl, by decide +kernel, by decide +kernel, by decide +kernel, (fun _ => ⟨mem_ALL (i := 822) rfl rfl, mem_ALL (i := 823) rfl rfl, _, _, rfl⟩), (fun h => by cases h), (fun h => by cases h)⟩
def z_m39 : z_MT := (yX3_look, cX3_look, 4, none, 0, 3, 2)
set_option maxRecDepth 20000 in
theorem z_mk39 : z_mok z_m39 := ⟨mem_ALL (i := 650) rfl rfl, mem_ALL (i := 58) rfl rfl, by decide +kernel, by decide +kernel, by decide +kernel, (fun _ => ⟨mem_ALL (i := 648) rfl rfl, mem_ALL (i := 649) rfl rfl, _, _, rfl⟩), (fun h => by cases h), (fun h => by cases h)⟩
def z_m40 : z_MT := (yX3_goThrough, cX3_goThrough, 7, none, 0, 3, 4)
set_option maxRecDepth 20000 in
theorem z_mk40 : z_mok z_m40 := ⟨mem_ALL (i := 658) rfl rfl, mem_ALL (i := 58) rfl rfl, by decide +kernel, by decide +kernel, by decide +kernel, (fun _ => ⟨mem_ALL (i := 657) rfl rfl, mem_ALL (i := 14) rfl rfl, _, _, rfl⟩), (fun h => by cases h), (fun h => by cases h)⟩
def z_m41 : z_MT := (yX3_hear, cX3_hear, 2, none, 0, 3, 1)
set_option maxRecDepth 20000 in
theorem z_mk41 : z_mok z_m41 := ⟨mem_ALL (i := 662) rfl rfl, mem_ALL (i := 58) rfl rfl, by decide +kernel, by decide +kernel, by decide +kernel, (fun _ => ⟨mem_ALL (i := 661) rfl rfl, mem_ALL (i := 15) rfl rfl, _, _, rfl⟩), (fun h => by cases h), (fun h => by cases h)⟩
def z_m42 : z_MT := (yX4_forget, cX4_forget, 1, none, 0, 4, 0)
set_option maxRecDepth 20000 in
theorem z_mk42 : z_mok z_m42 := ⟨mem_ALL (i := 512) rfl rfl, mem_ALL (i := 57) rfl rfl, by decide +kernel, by decide +kernel, by decide +kernel, (fun _ => ⟨mem_ALL (i := 510) rfl rfl, mem_ALL (i := 511) rfl rfl, _, _, rfl⟩), (fun h => by cases h), (fun h => by cases h)⟩
def z_m43 : z_MT := (yX4_look, cX4_look, 4, none, 0, 4, 1)
set_option maxRecDepth 20000 in
theorem z_mk43 : z_mok z_m43 := ⟨mem_ALL (i := 589) rfl rfl, mem_ALL (i := 57) rfl rfl, by decide +kernel, by decide +kernel, by decide +kernel, (fun _ => ⟨mem_ALL (i := 587) rfl rfl, mem_ALL (i := 588) rfl rfl, _, _, rfl⟩), (fun h => by cases h), (fun h => by cases h)⟩
def z_m44 : z_MT := (yX4_goThrough, cX4_goThrough, 5, none, 0, 4, 3)
set_option maxRecDepth 20000 in
theorem z_mk44 : z_mok z_m44 := ⟨mem_ALL (i := 613) rfl rfl, mem_ALL (i := 57) rfl rfl, by decide +kernel, by decide +kernel, by decide +kernel, (fun _ => ⟨mem_ALL (i := 612) rfl rfl, mem_ALL (i := 12) rfl rfl, _, _, rfl⟩), (fun h => by cases h), (fun h => by cases h)⟩
def z_m45 : z_MT := (yX4_weigh, cX4_weigh, 3, none, 0, 4, 1)
set_option maxRecDepth 20000 in
theorem z_mk45 : z_mok z_m45 := ⟨mem_ALL (i := 617) rfl rfl, mem_ALL (i := 57) rfl rfl, by decide +kernel, by decide +kernel, by decide +kernel, (fun _ => ⟨mem_ALL (i := 616) rfl rfl, mem_ALL (i := 13) rfl rfl, _, _, rfl⟩), (fun h => by cases h), (fun h => by cases h)⟩
def z_m46 : z_MT := (yX5_start, cX5_start, 2, none, 0, 5, 1)
set_option maxRecDepth 20000 in
theorem z_mk46 : z_mok z_m46 := ⟨mem_ALL (i := 740) rfl rfl, mem_ALL (i := 59) rfl rfl, by decide +kernel, by decide +kernel, by decide +kernel, (fun _ => ⟨mem_ALL (i := 738) rfl rfl, mem_ALL (i := 739) rfl rfl, _, _, rfl⟩), (fun h => by cases h), (fun h => by cases h)⟩
def z_m47 : z_MT := (yX5_turn, cX5_turn, 1, none, 0, 5, 0)
set_option maxRecDepth 20000 in
theorem z_mk47 : z_mok z_m47 := ⟨mem_ALL (i := 747) rfl rfl, mem_ALL (i := 59) rfl rfl, by decide +kernel, by decide +kernel, by decide +kernel, (fun _ => ⟨mem_ALL (i := 745) rfl rfl, mem_ALL (i := 746) rfl rfl, _, _, rfl⟩), (fun h => by cases h), (fun h => by cases h)⟩
def z_m48 : z_MT := (yX5_isDown, cX5_isDown, 1, (some .boolean), 0, 5, 0)
set_option maxRecDepth 20000 in
theorem z_mk48 : z_mok z_m48 := ⟨mem_ALL (i := 752) rfl rfl, mem_ALL (i := 59) rfl rfl, by decide +kernel, by decide +kernel, by decide +kernel, (fun _ => ⟨mem_ALL (i := 750) rfl rfl, mem_ALL (i := 751) rfl rfl, _, _, rfl⟩), (fun h => by cases h), (fun h => by cases h)⟩
def z_m49 : z_MT := (yX5_pushOff, cX5_pushOff, 3, none, 0, 5, 1)
set_option maxRecDepth 20000 in
theorem z_mk49 : z_mok z_m49 := ⟨mem_ALL (i := 763) rfl rfl, mem_ALL (i := 59) rfl rfl, by decide +kernel, by decide +kernel, by decide +kernel, (fun _ => ⟨mem_ALL (i := 761) rfl rfl, mem_ALL (i := 762) rfl rfl, _, _, rfl⟩), (fun h => by cases h), (fun h => by cases h)⟩
def z_m50 : z_MT := (yX6_isFull, cX6_isFull, 1, (some .boolean), 0, 6, 0)
set_option maxRecDepth 20000 in
theorem z_mk50 : z_mok z_m50 := ⟨mem_ALL (i := 356) rfl rfl, mem_ALL (i := 53) rfl rfl, by decide +kernel, by decide +kernel, by decide +kernel, (fun _ => ⟨mem_ALL (i := 354) rfl rfl, mem_ALL (i := 355) rfl rfl, _, _, rfl⟩), (fun h => by cases h), (fun h => by cases h)⟩
def z_m51 : z_MT := (yX6_add, cX6_add, 2, none, 0, 6, 1)
set_option maxRecDepth 20000 in
theorem z_mk51 : z_mok z_m51 := ⟨mem_ALL (i := 360) rfl rfl, mem_ALL (i := 53) rfl rfl, by decide +kernel, by decide +kernel, by decide +kernel, (fun _ => ⟨mem_ALL (i := 358) rfl rfl, mem_ALL (i := 359) rfl rfl, _, _, rfl⟩), (fun h => by cases h), (fun h => by cases h)⟩
def z_m52 : z_MT := (yX6_empty, cX6_empty, 1, none, 0, 6, 0)
set_option maxRecDepth 20000 in
theorem z_mk52 : z_mok z_m52 := ⟨mem_ALL (i := 516) rfl rfl, mem_ALL (i := 53) rfl rfl, by decide +kernel, by decide +kernel, by decide +kernel, (fun _ => ⟨mem_ALL (i := 514) rfl rfl, mem_ALL (i := 515) rfl rfl, _, _, rfl⟩), (fun h => by cases h), (fun h => by cases h)⟩
def z_m53 : z_MT := (yX6_faultPlace, cX6_faultPlace, 2, (some .int), 0, 6, 0)
set_option maxRecDepth 20000 in
theorem z_mk53 : z_mok z_m53 := ⟨mem_ALL (i := 373) rfl rfl, mem_ALL (i := 53) rfl rfl, by decide +kernel, by decide +kernel, by decide +kernel, (fun _ => ⟨mem_ALL (i := 371) rfl rfl, mem_ALL (i := 372) rfl rfl, _, _, rfl⟩), (fun h => by cases h), (fun h => by cases h)⟩
def z_m54 : z_MT := (yX6_readStatement, cX6_readStatement, 6, (some .boolean), 0, 6, 0)
set_option maxRecDepth 20000 in
theorem z_mk54 : z_mok z_m54 := ⟨mem_ALL (i := 377) rfl rfl, mem_ALL (i := 53) rfl rfl, by decide +kernel, by decide +kernel, by decide +kernel, (fun _ => ⟨mem_ALL (i := 375) rfl rfl, mem_ALL (i := 376) rfl rfl, _, _, rfl⟩), (fun h => by cases h), (fun h => by cases h)⟩
def z_m55 : z_MT := (yX6_formOf, cX6_formOf, 1, (some (.object "java/lang/String")), 1, 6, 1)
set_option maxRecDepth 20000 in
theorem z_mk55 : z_mok z_m55 := ⟨mem_ALL (i := 384) rfl rfl, mem_ALL (i := 53) rfl rfl, by decide +kernel, by decide +kernel, by decide +kernel, (fun h => by cases h), (fun _ => mem_ALL (i := 383) rfl rfl), (fun h => by cases h)⟩
def z_m56 : z_MT := (yX6_here, cX6_here, 1, (some .int), 0, 6, 0)
set_option maxRecDepth 20000 in
theorem z_mk56 : z_mok z_m56 := ⟨mem_ALL (i := 381) rfl rfl, mem_ALL (i := 53) rfl rfl, by decide +kernel, by decide +kernel, by decide +kernel, (fun _ => ⟨mem_ALL (i := 380) rfl rfl, mem_ALL (i := 2) rfl rfl, _, _, rfl⟩), (fun h => by cases h), (fun h => by cases h)⟩
def z_m57 : z_MT := (yX6_readNumber, cX6_readNumber, 3, (some .int), 0, 6, 0)
set_option maxRecDepth 20000 in
theorem z_mk57 : z_mok z_m57 := ⟨mem_ALL (i := 445) rfl rfl, mem_ALL (i := 53) rfl rfl, by decide +kernel, by decide +kernel, by decide +kernel, (fun _ => ⟨mem_ALL (i := 444) rfl rfl, mem_ALL (i := 3) rfl rfl, _, _, rfl⟩), (fun h => by cases h), (fun h => by cases h)⟩
def z_m58 : z_MT := (yX6_readSign, cX6_readSign, 3, (some .int), 0, 6, 1)
set_option maxRecDepth 20000 in
theorem z_mk58 : z_mok z_m58 := ⟨mem_ALL (i := 452) rfl rfl, mem_ALL (i := 53) rfl rfl, by decide +kernel, by decide +kernel, by decide +kernel, (fun _ => ⟨mem_ALL (i := 451) rfl rfl, mem_ALL (i := 4) rfl rfl, _, _, rfl⟩), (fun h => by cases h), (fun h => by cases h)⟩
def z_m59 : z_MT := (yX6_valueOf, cX6_valueOf, 2, (some .int), 1, 6, 2)
set_option maxRecDepth 20000 in
theorem z_mk59 : z_mok z_m59 := ⟨mem_ALL (i := 455) rfl rfl, mem_ALL (i := 53) rfl rfl, by decide +kernel, by decide +kernel, by decide +kernel, (fun h => by cases h), (fun _ => mem_ALL (i := 454) rfl rfl), (fun h => by cases h)⟩
def z_m60 : z_MT := (yX6_digitOf, cX6_digitOf, 1, (some .int), 1, 6, 1)
set_option maxRecDepth 20000 in
theorem z_mk60 : z_mok z_m60 := ⟨mem_ALL (i := 448) rfl rfl, mem_ALL (i := 53) rfl rfl, by decide +kernel, by decide +kernel, by decide +kernel, (fun h => by cases h), (fun _ => mem_ALL (i := 447) rfl rfl), (fun h => by cases h)⟩
def z_m61 : z_MT := (yX6_kindOf, cX6_kindOf, 1, (some .int), 1, 6, 1)
set_option maxRecDepth 20000 in
theorem z_mk61 : z_mok z_m61 := ⟨mem_ALL (i := 458) rfl rfl, mem_ALL (i := 53) rfl rfl, by decide +kernel, by decide +kernel, by decide +kernel, (fun h => by cases h), (fun _ => mem_ALL (i := 457) rfl rfl), (fun h => by cases h)⟩
def z_m62 : z_MT := (yX6_sideOfLetter, cX6_sideOfLetter, 1, (some .int), 1, 6, 1)
set_option maxRecDepth 20000 in
theorem z_mk62 : z_mok z_m62 := ⟨mem_ALL (i := 461) rfl rfl, mem_ALL (i := 53) rfl rfl, by decide +kernel, by decide +kernel, by decide +kernel, (fun h => by cases h), (fun _ => mem_ALL (i := 460) rfl rfl), (fun h => by cases h)⟩
def z_m63 : z_MT := (yX7_letter, cX7_letter, 2, (some .int), 0, 7, 1)
set_option maxRecDepth 20000 in
theorem z_mk63 : z_mok z_m63 := ⟨mem_ALL (i := 348) rfl rfl, mem_ALL (i := 52) rfl rfl, by decide +kernel, by decide +kernel, by decide +kernel, (fun _ => ⟨mem_ALL (i := 346) rfl rfl, mem_ALL (i := 347) rfl rfl, _, _, rfl⟩), (fun h => by cases h), (fun h => by cases h)⟩
def z_m64 : z_MT := (yX7_board, cX7_board, 2, (some .int), 0, 7, 0)
set_option maxRecDepth 20000 in
theorem z_mk64 : z_mok z_m64 := ⟨mem_ALL (i := 365) rfl rfl, mem_ALL (i := 52) rfl rfl, by decide +kernel, by decide +kernel, by decide +kernel, (fun _ => ⟨mem_ALL (i := 363) rfl rfl, mem_ALL (i := 364) rfl rfl, _, _, rfl⟩), (fun h => by cases h), (fun h => by cases h)⟩
def z_m65 : z_MT := (yX7_child, cX7_child, 3, (some .int), 0, 7, 2)
set_option maxRecDepth 20000 in
theorem z_mk65 : z_mok z_m65 := ⟨mem_ALL (i := 521) rfl rfl, mem_ALL (i := 52) rfl rfl, by decide +kernel, by decide +kernel, by decide +kernel, (fun _ => ⟨mem_ALL (i := 519) rfl rfl, mem_ALL (i := 520) rfl rfl, _, _, rfl⟩), (fun h => by cases h), (fun h => by cases h)⟩
def z_m66 : z_MT := (yX7_seat, cX7_seat, 2, (some .int), 0, 7, 1)
set_option maxRecDepth 20000 in
theorem z_mk66 : z_mok z_m66 := ⟨mem_ALL (i := 526) rfl rfl, mem_ALL (i := 52) rfl rfl, by decide +kernel, by decide +kernel, by decide +kernel, (fun _ => ⟨mem_ALL (i := 524) rfl rfl, mem_ALL (i := 525) rfl rfl, _, _, rfl⟩), (fun h => by cases h), (fun h => by cases h)⟩
def z_m67 : z_MT := (yX7_sit, cX7_sit, 4, (some .int), 0, 7, 2)
set_option maxRecDepth 20000 in
theorem z_mk67 : z_mok z_m67 := ⟨mem_ALL (i := 539) rfl rfl, mem_ALL (i := 52) rfl rfl, by decide +kernel, by decide +kernel, by decide +kernel, (fun _ => ⟨mem_ALL (i := 537) rfl rfl, mem_ALL (i := 538) rfl rfl, _, _, rfl⟩), (fun h => by cases h), (fun h => by cases h)⟩
def z_m68 : z_MT := (yX7_notch, cX7_notch, 3, (some .int), 0, 7, 1)
set_option maxRecDepth 20000 in
theorem z_mk68 : z_mok z_m68 := ⟨mem_ALL (i := 545) rfl rfl, mem_ALL (i := 52) rfl rfl, by decide +kernel, by decide +kernel, by decide +kernel, (fun _ => ⟨mem_ALL (i := 543) rfl rfl, mem_ALL (i := 544) rfl rfl, _, _, rfl⟩), (fun h => by cases h), (fun h => by cases h)⟩
def z_m69 : z_MT := (yX7_sum, cX7_sum, 1, (some .int), 0, 7, 0)
set_option maxRecDepth 20000 in
theorem z_mk69 : z_mok z_m69 := ⟨mem_ALL (i := 549) rfl rfl, mem_ALL (i := 52) rfl rfl, by decide +kernel, by decide +kernel, by decide +kernel, (fun _ => ⟨mem_ALL (i := 547) rfl rfl, mem_ALL (i := 548) rfl rfl, _, _, rfl⟩), (fun h => by cases h), (fun h => by cases h)⟩
def z_m70 : z_MT := (yX7_down, cX7_down, 1, (some .int), 0, 7, 0)
set_option maxRecDepth 20000 in
theorem z_mk70 : z_mok z_m70 := ⟨mem_ALL (i := 578) rfl rfl, mem_ALL (i := 52) rfl rfl, by decide +kernel, by decide +kernel, by decide +kernel, (fun _ => ⟨mem_ALL (i := 576) rfl rfl, mem_ALL (i := 577) rfl rfl, _, _, rfl⟩), (fun h => by cases h), (fun h => by cases h)⟩
def z_m71 : z_MT := (yX7_level, cX7_level, 1, (some .int), 0, 7, 0)
set_option maxRecDepth 20000 in
theorem z_mk71 : z_mok z_m71 := ⟨mem_ALL (i := 585) rfl rfl, mem_ALL (i := 52) rfl rfl, by decide +kernel, by decide +kernel, by decide +kernel, (fun _ => ⟨mem_ALL (i := 583) rfl rfl, mem_ALL (i := 584) rfl rfl, _, _, rfl⟩), (fun h => by cases h), (fun h => by cases h)⟩
def z_m72 : z_MT := (yX7_first, cX7_first, 4, (some .int), 0, 7, 2)
set_option maxRecDepth 20000 in
theorem z_mk72 : z_mok z_m72 := ⟨mem_ALL (i := 623) rfl rfl, mem_ALL (i := 52) rfl rfl, by decide +kernel, by decide +kernel, by decide +kernel, (fun _ => ⟨mem_ALL (i := 621) rfl rfl, mem_ALL (i := 622) rfl rfl, _, _, rfl⟩), (fun h => by cases h), (fun h => by cases h)⟩
def z_m73 : z_MT := (yX7_off, cX7_off, 1, (some .int), 0, 7, 0)
set_option maxRecDepth 20000 in
theorem z_mk73 : z_mok z_m73 := ⟨mem_ALL (i := 627) rfl rfl, mem_ALL (i := 52) rfl rfl, by decide +kernel, by decide +kernel, by decide +kernel, (fun _ => ⟨mem_ALL (i := 625) rfl rfl, mem_ALL (i := 626) rfl rfl, _, _, rfl⟩), (fun h => by cases h), (fun h => by cases h)⟩
def z_m74 : z_MT := (yX7_bucket, cX7_bucket, 5, (some .int), 0, 7, 1)
set_option maxRecDepth 20000 in
theorem z_mk74 : z_mok z_m74 := ⟨mem_ALL (i := 631) rfl rfl, mem_ALL (i := 52) rfl rfl, by decide +kernel, by decide +kernel, by decide +kernel, (fun _ => ⟨mem_ALL (i := 629) rfl rfl, mem_ALL (i := 630) rfl rfl, _, _, rfl⟩), (fun h => by cases h), (fun h => by cases h)⟩
def z_m75 : z_MT := (yX7_notchBest, cX7_notchBest, 3, (some .int), 0, 7, 0)
set_option maxRecDepth 20000 in
theorem z_mk75 : z_mok z_m75 := ⟨mem_ALL (i := 640) rfl rfl, mem_ALL (i := 52) rfl rfl, by decide +kernel, by decide +kernel, by decide +kernel, (fun _ => ⟨mem_ALL (i := 638) rfl rfl, mem_ALL (i := 639) rfl rfl, _, _, rfl⟩), (fun h => by cases h), (fun h => by cases h)⟩
def z_m76 : z_MT := (yX7_orders, cX7_orders, 2, (some .int), 0, 7, 1)
set_option maxRecDepth 20000 in
theorem z_mk76 : z_mok z_m76 := ⟨mem_ALL (i := 646) rfl rfl, mem_ALL (i := 52) rfl rfl, by decide +kernel, by decide +kernel, by decide +kernel, (fun _ => ⟨mem_ALL (i := 644) rfl rfl, mem_ALL (i := 645) rfl rfl, _, _, rfl⟩), (fun h => by cases h), (fun h => by cases h)⟩
def z_m77 : z_MT := (yX7_order, cX7_order, 3, (some .int), 0, 7, 2)
set_option maxRecDepth 20000 in
theorem z_mk77 : z_mok z_m77 := ⟨mem_ALL (i := 674) rfl rfl, mem_ALL (i := 52) rfl rfl, by decide +kernel, by decide +kernel, by decide +kernel, (fun _ => ⟨mem_ALL (i := 672) rfl rfl, mem_ALL (i := 673) rfl rfl, _, _, rfl⟩), (fun h => by cases h), (fun h => by cases h)⟩
def z_m78 : z_MT := (yX7_leastBang, cX7_leastBang, 1, (some .int), 0, 7, 0)
set_option maxRecDepth 20000 in
theorem z_mk78 : z_mok z_m78 := ⟨mem_ALL (i := 678) rfl rfl, mem_ALL (i := 52) rfl rfl, by decide +kernel, by decide +kernel, by decide +kernel, (fun _ => ⟨mem_ALL (i := 676) rfl rfl, mem_ALL (i := 677) rfl rfl, _, _, rfl⟩), (fun h => by cases h), (fun h => by cases h)⟩
def z_m79 : z_MT := (yX7_go, cX7_go, 5, (some .int), 0, 7, 4)
set_option maxRecDepth 20000 in
theorem z_mk79 : z_mok z_m79 := ⟨mem_ALL (i := 682) rfl rfl, mem_ALL (i := 52) rfl rfl, by decide +kernel, by decide +kernel, by decide +kernel, (fun _ => ⟨mem_ALL (i := 680) rfl rfl, mem_ALL (i := 681) rfl rfl, _, _, rfl⟩), (fun h => by cases h), (fun h => by cases h)⟩
def z_m80 : z_MT := (yX7_fitting, cX7_fitting, 2, (some .int), 0, 7, 1)
set_option maxRecDepth 20000 in
theorem z_mk80 : z_mok z_m80 := ⟨mem_ALL (i := 698) rfl rfl, mem_ALL (i := 52) rfl rfl, by decide +kernel, by decide +kernel, by decide +kernel, (fun _ => ⟨mem_ALL (i := 696) rfl rfl, mem_ALL (i := 697) rfl rfl, _, _, rfl⟩), (fun h => by cases h), (fun h => by cases h)⟩
def z_m81 : z_MT := (yX7_next, cX7_next, 3, (some .int), 0, 7, 2)
set_option maxRecDepth 20000 in
theorem z_mk81 : z_mok z_m81 := ⟨mem_ALL (i := 713) rfl rfl, mem_ALL (i := 52) rfl rfl, by decide +kernel, by decide +kernel, by decide +kernel, (fun _ => ⟨mem_ALL (i := 711) rfl rfl, mem_ALL (i := 712) rfl rfl, _, _, rfl⟩), (fun h => by cases h), (fun h => by cases h)⟩
def z_m82 : z_MT := (yX7_inertia, cX7_inertia, 1, (some .int), 0, 7, 0)
set_option maxRecDepth 20000 in
theorem z_mk82 : z_mok z_m82 := ⟨mem_ALL (i := 727) rfl rfl, mem_ALL (i := 52) rfl rfl, by decide +kernel, by decide +kernel, by decide +kernel, (fun _ => ⟨mem_ALL (i := 725) rfl rfl, mem_ALL (i := 726) rfl rfl, _, _, rfl⟩), (fun h => by cases h), (fun h => by cases h)⟩
def z_m83 : z_MT := (yX7_comesDown, cX7_comesDown, 3, (some .int), 0, 7, 1)
set_option maxRecDepth 20000 in
theorem z_mk83 : z_mok z_m83 := ⟨mem_ALL (i := 736) rfl rfl, mem_ALL (i := 52) rfl rfl, by decide +kernel, by decide +kernel, by decide +kernel, (fun _ => ⟨mem_ALL (i := 734) rfl rfl, mem_ALL (i := 735) rfl rfl, _, _, rfl⟩), (fun h => by cases h), (fun h => by cases h)⟩
def z_m84 : z_MT := (yX7_up, cX7_up, 5, (some .int), 0, 7, 1)
set_option maxRecDepth 20000 in
theorem z_mk84 : z_mok z_m84 := ⟨mem_ALL (i := 756) rfl rfl, mem_ALL (i := 52) rfl rfl, by decide +kernel, by decide +kernel, by decide +kernel, (fun _ => ⟨mem_ALL (i := 754) rfl rfl, mem_ALL (i := 755) rfl rfl, _, _, rfl⟩), (fun h => by cases h), (fun h => by cases h)⟩
def z_m85 : z_MT := (yX7_thrown, cX7_thrown, 10, (some .int), 0, 7, 5)
set_option maxRecDepth 20000 in
theorem z_mk85 : z_mok z_m85 := ⟨mem_ALL (i := 771) rfl rfl, mem_ALL (i := 52) rfl rfl, by decide +kernel, by decide +kernel, by decide +kernel, (fun _ => ⟨mem_ALL (i := 769) rfl rfl, mem_ALL (i := 770) rfl rfl, _, _, rfl⟩), (fun h => by cases h), (fun h => by cases h)⟩
def z_m86 : z_MT := (yX7_highest, cX7_highest, 8, (some .int), 0, 7, 1)
set_option maxRecDepth 20000 in
theorem z_mk86 : z_mok z_m86 := ⟨mem_ALL (i := 778) rfl rfl, mem_ALL (i := 52) rfl rfl, by decide +kernel, by decide +kernel, by decide +kernel, (fun _ => ⟨mem_ALL (i := 776) rfl rfl, mem_ALL (i := 777) rfl rfl, _, _, rfl⟩), (fun h => by cases h), (fun h => by cases h)⟩
def z_m87 : z_MT := (yX7_guess, cX7_guess, 4, (some .int), 0, 7, 3)
set_option maxRecDepth 20000 in
theorem z_mk87 : z_mok z_m87 := ⟨mem_ALL (i := 784) rfl rfl, mem_ALL (i := 52) rfl rfl, by decide +kernel, by decide +kernel, by decide +kernel, (fun _ => ⟨mem_ALL (i := 782) rfl rfl, mem_ALL (i := 783) rfl rfl, _, _, rfl⟩), (fun h => by cases h), (fun h => by cases h)⟩
def z_m88 : z_MT := (yX7_parting, cX7_parting, 8, (some .int), 0, 7, 3)
set_option maxRecDepth 20000 in
theorem z_mk88 : z_mok z_m88 := ⟨mem_ALL (i := 797) rfl rfl, mem_ALL (i := 52) rfl rfl, by decide +kernel, by decide +kernel, by decide +kernel, (fun _ => ⟨mem_ALL (i := 795) rfl rfl, mem_ALL (i := 796) rfl rfl, _, _, rfl⟩), (fun h => by cases h), (fun h => by cases h)⟩
def z_m89 : z_MT := (yX7_guessed, cX7_guessed, 4, (some .int), 0, 7, 3)
set_option maxRecDepth 20000 in
theorem z_mk89 : z_mok z_m89 := ⟨mem_ALL (i := 807) rfl rfl, mem_ALL (i := 52) rfl rfl, by decide +kernel, by decide +kernel, by decide +kernel, (fun _ => ⟨mem_ALL (i := 805) rfl rfl, mem_ALL (i := 806) rfl rfl, _, _, rfl⟩), (fun h => by cases h), (fun h => by cases h)⟩
def z_m90 : z_MT := (yX7_rules, cX7_rules, 3, (some .int), 0, 7, 0)
set_option maxRecDepth 20000 in
theorem z_mk90 : z_mok z_m90 := ⟨mem_ALL (i := 820) rfl rfl, mem_ALL (i := 52) rfl rfl, by decide +kernel, by decide +kernel, by decide +kernel, (fun _ => ⟨mem_ALL (i := 818) rfl rfl, mem_ALL (i := 819) rfl rfl, _, _, rfl⟩), (fun h => by cases h), (fun h => by cases h)⟩
def z_m91 : z_MT := (yX7_seeds, cX7_seeds, 8, (some .int), 0, 7, 3)
set_option maxRecDepth 20000 in
theorem z_mk91 : z_mok z_m91 := ⟨mem_ALL (i := 829) rfl rfl, mem_ALL (i := 52) rfl rfl, by decide +kernel, by decide +kernel, by decide +kernel, (fun _ => ⟨mem_ALL (i := 827) rfl rfl, mem_ALL (i := 828) rfl rfl, _, _, rfl⟩), (fun h => by cases h), (fun h => by cases h)⟩
def z_m92 : z_MT := (yX7_row, cX7_row, 2, (some .int), 0, 7, 1)
set_option maxRecDepth 20000 in
theorem z_mk92 : z_mok z_m92 := ⟨mem_ALL (i := 846) rfl rfl, mem_ALL (i := 52) rfl rfl, by decide +kernel, by decide +kernel, by decide +kernel, (fun _ => ⟨mem_ALL (i := 844) rfl rfl, mem_ALL (i := 845) rfl rfl, _, _, rfl⟩), (fun h => by cases h), (fun h => by cases h)⟩
def z_m93 : z_MT := (yX7_judge, cX7_judge, 2, (some .int), 0, 7, 0)
set_option maxRecDepth 20000 in
theorem z_mk93 : z_mok z_m93 := ⟨mem_ALL (i := 850) rfl rfl, mem_ALL (i := 52) rfl rfl, by decide +kernel, by decide +kernel, by decide +kernel, (fun _ => ⟨mem_ALL (i := 848) rfl rfl, mem_ALL (i := 849) rfl rfl, _, _, rfl⟩), (fun h => by cases h), (fun h => by cases h)⟩
def z_m94 : z_MT := (yX7_image, cX7_image, 1, (some .int), 0, 7, 0)
set_option maxRecDepth 20000 in
theorem z_mk94 : z_mok z_m94 := ⟨mem_ALL (i := 859) rfl rfl, mem_ALL (i := 52) rfl rfl, by decide +kernel, by decide +kernel, by decide +kernel, (fun _ => ⟨mem_ALL (i := 857) rfl rfl, mem_ALL (i := 858) rfl rfl, _, _, rfl⟩), (fun h => by cases h), (fun h => by cases h)⟩
def z_m95 : z_MT := (yX7_on, cX7_on, 1, (some .int), 0, 7, 0)
set_option maxRecDepth 20000 in
theorem z_mk95 : z_mok z_m95 := ⟨mem_ALL (i := 873) rfl rfl, mem_ALL (i := 52) rfl rfl, by decide +kernel, by decide +kernel, by decide +kernel, (fun _ => ⟨mem_ALL (i := 871) rfl rfl, mem_ALL (i := 872) rfl rfl, _, _, rfl⟩), (fun h => by cases h), (fun h => by cases h)⟩
def z_m96 : z_MT := (yX7_count, cX7_count, 2, (some .int), 0, 7, 1)
set_option maxRecDepth 20000 in
theorem z_mk96 : z_mok z_m96 := ⟨mem_ALL (i := 877) rfl rfl, mem_ALL (i := 52) rfl rfl, by decide +kernel, by decide +kernel, by decide +kernel, (fun _ => ⟨mem_ALL (i := 875) rfl rfl, mem_ALL (i := 876) rfl rfl, _, _, rfl⟩), (fun h => by cases h), (fun h => by cases h)⟩
def z_m97 : z_MT := (yX7_refuse, cX7_refuse, 3, (some .int), 0, 7, 1)
set_option maxRecDepth 20000 in
theorem z_mk97 : z_mok z_m97 := ⟨mem_ALL (i := 352) rfl rfl, mem_ALL (i := 52) rfl rfl, by decide +kernel, by decide +kernel, by decide +kernel, (fun _ => ⟨mem_ALL (i := 351) rfl rfl, mem_ALL (i := 0) rfl rfl, _, _, rfl⟩), (fun h => by cases h), (fun h => by cases h)⟩
def z_m98 : z_MT := (yX7_refuseApart, cX7_refuseApart, 2, (some .int), 0, 7, 1)
set_option maxRecDepth 20000 in
theorem z_mk98 : z_mok z_m98 := ⟨mem_ALL (i := 530) rfl rfl, mem_ALL (i := 52) rfl rfl, by decide +kernel, by decide +kernel, by decide +kernel, (fun _ => ⟨mem_ALL (i := 529) rfl rfl, mem_ALL (i := 10) rfl rfl, _, _, rfl⟩), (fun h => by cases h), (fun h => by cases h)⟩
def z_m99 : z_MT := (yX7_readBoard, cX7_readBoard, 4, (some .int), 0, 7, 0)
set_option maxRecDepth 20000 in
theorem z_mk99 : z_mok z_m99 := ⟨mem_ALL (i := 369) rfl rfl, mem_ALL (i := 52) rfl rfl, by decide +kernel, by decide +kernel, by decide +kernel, (fun _ => ⟨mem_ALL (i := 368) rfl rfl, mem_ALL (i := 1) rfl rfl, _, _, rfl⟩), (fun h => by cases h), (fun h => by cases h)⟩
def z_m100 : z_MT := (yX7_lookAtRow, cX7_lookAtRow, 2, (some .int), 0, 7, 0)
set_option maxRecDepth 20000 in
theorem z_mk100 : z_mok z_m100 := ⟨mem_ALL (i := 854) rfl rfl, mem_ALL (i := 52) rfl rfl, by decide +kernel, by decide +kernel, by decide +kernel, (fun _ => ⟨mem_ALL (i := 853) rfl rfl, mem_ALL (i := 18) rfl rfl, _, _, rfl⟩), (fun h => by cases h), (fun h => by cases h)⟩
def z_m101 : z_MT := (yX7_sideOf, cX7_sideOf, 1, (some .int), 1, 7, 1)
set_option maxRecDepth 20000 in
theorem z_mk101 : z_mok z_m101 := ⟨mem_ALL (i := 581) rfl rfl, mem_ALL (i := 52) rfl rfl, by decide +kernel, by decide +kernel, by decide +kernel, (fun h => by cases h), (fun _ => mem_ALL (i := 580) rfl rfl), (fun h => by cases h)⟩
def z_m102 : z_MT := (yX7_isSide, cX7_isSide, 1, (some .boolean), 1, 7, 1)
set_option maxRecDepth 20000 in
theorem z_mk102 : z_mok z_m102 := ⟨mem_ALL (i := 685) rfl rfl, mem_ALL (i := 52) rfl rfl, by decide +kernel, by decide +kernel, by decide +kernel, (fun h => by cases h), (fun _ => mem_ALL (i := 684) rfl rfl), (fun h => by cases h)⟩
def z_m103 : z_MT := (yX7_areOpposite, cX7_areOpposite, 2, (some .boolean), 1, 7, 2)
set_option maxRecDepth 20000 in
theorem z_mk103 : z_mok z_m103 := ⟨mem_ALL (i := 759) rfl rfl, mem_ALL (i := 52) rfl rfl, by decide +kernel, by decide +kernel, by decide +kernel, (fun h => by cases h), (fun _ => mem_ALL (i := 758) rfl rfl), (fun h => by cases h)⟩
def z_m104 : z_MT := (yX7_inLeastTerms, cX7_inLeastTerms, 6, (some .int), 1, 7, 2)
set_option maxRecDepth 20000 in
theorem z_mk104 : z_mok z_m104 := ⟨mem_ALL (i := 774) rfl rfl, mem_ALL (i := 52) rfl rfl, by decide +kernel, by decide +kernel, by decide +kernel, (fun h => by cases h), (fun _ => mem_ALL (i := 773) rfl rfl), (fun h => by cases h)⟩
def z_m105 : z_MT := (yX7_isRule, cX7_isRule, 1, (some .boolean), 1, 7, 1)
set_option maxRecDepth 20000 in
theorem z_mk105 : z_mok z_m105 := ⟨mem_ALL (i := 787) rfl rfl, mem_ALL (i := 52) rfl rfl, by decide +kernel, by decide +kernel, by decide +kernel, (fun h => by cases h), (fun _ => mem_ALL (i := 786) rfl rfl), (fun h => by cases h)⟩
def z_m106 : z_MT := (yX7_isWeightAndFeet, cX7_isWeightAndFeet, 1, (some .boolean), 1, 7, 1)
set_option maxRecDepth 20000 in
theorem z_mk106 : z_mok z_m106 := ⟨mem_ALL (i := 790) rfl rfl, mem_ALL (i := 52) rfl rfl, by decide +kernel, by decide +kernel, by decide +kernel, (fun h => by cases h), (fun _ => mem_ALL (i := 789) rfl rfl), (fun h => by cases h)⟩
def z_m107 : z_MT := (yX7_areParted, cX7_areParted, 4, (some .boolean), 1, 7, 4)
set_option maxRecDepth 20000 in
theorem z_mk107 : z_mok z_m107 := ⟨mem_ALL (i := 800) rfl rfl, mem_ALL (i := 52) rfl rfl, by decide +kernel, by decide +kernel, by decide +kernel, (fun h => by cases h), (fun _ => mem_ALL (i := 799) rfl rfl), (fun h => by cases h)⟩
def z_m108 : z_MT := (yX7_isOfParting, cX7_isOfParting, 1, (some .boolean), 1, 7, 1)
set_option maxRecDepth 20000 in
theorem z_mk108 : z_mok z_m108 := ⟨mem_ALL (i := 803) rfl rfl, mem_ALL (i := 52) rfl rfl, by decide +kernel, by decide +kernel, by decide +kernel, (fun h => by cases h), (fun _ => mem_ALL (i := 802) rfl rfl), (fun h => by cases h)⟩
def z_m109 : z_MT := (yX7_guessBy, cX7_guessBy, 5, (some .int), 1, 7, 3)
set_option maxRecDepth 20000 in
theorem z_mk109 : z_mok z_m109 := ⟨mem_ALL (i := 793) rfl rfl, mem_ALL (i := 52) rfl rfl, by decide +kernel, by decide +kernel, by decide +kernel, (fun h => by cases h), (fun _ => mem_ALL (i := 792) rfl rfl), (fun h => by cases h)⟩
def z_m110 : z_MT := (yX8_refuse, cX8_refuse, 2, (some .int), 0, 8, 1)
set_option maxRecDepth 20000 in
theorem z_mk110 : z_mok z_m110 := ⟨mem_ALL (i := 968) rfl rfl, mem_ALL (i := 60) rfl rfl, by decide +kernel, by decide +kernel, by decide +kernel, (fun _ => ⟨mem_ALL (i := 967) rfl rfl, mem_ALL (i := 19) rfl rfl, _, _, rfl⟩), (fun h => by cases h), (fun h => by cases h)⟩
def z_m111 : z_MT := (yX8_isIn, cX8_isIn, 2, (some .boolean), 1, 8, 2)
set_option maxRecDepth 20000 in
theorem z_mk111 : z_mok z_m111 := ⟨mem_ALL (i := 1028) rfl rfl, mem_ALL (i := 60) rfl rfl, by decide +kernel, by decide +kernel, by decide +kernel, (fun h => by cases h), (fun _ => mem_ALL (i := 1027) rfl rfl), (fun h => by cases h)⟩
def z_m112 : z_MT := (yX8_within, cX8_within, 3, (some .int), 1, 8, 3)
set_option maxRecDepth 20000 in
theorem z_mk112 : z_mok z_m112 := ⟨mem_ALL (i := 964) rfl rfl, mem_ALL (i := 60) rfl rfl, by decide +kernel, by decide +kernel, by decide +kernel, (fun h => by cases h), (fun _ => mem_ALL (i := 963) rfl rfl), (fun h => by cases h)⟩
def z_m113 : z_MT := (yX8_amount, cX8_amount, 1, (some .int), 1, 8, 1)
set_option maxRecDepth 20000 in
theorem z_mk113 : z_mok z_m113 := ⟨mem_ALL (i := 1017) rfl rfl, mem_ALL (i := 60) rfl rfl, by decide +kernel, by decide +kernel, by decide +kernel, (fun h => by cases h), (fun _ => mem_ALL (i := 1016) rfl rfl), (fun h => by cases h)⟩
def z_m114 : z_MT := (yX8_copies, cX8_copies, 3, none, 1, 8, 2)
set_option maxRecDepth 20000 in
theorem z_mk114 : z_mok z_m114 := ⟨mem_ALL (i := 1006) rfl rfl, mem_ALL (i := 60) rfl rfl, by decide +kernel, by decide +kernel, by decide +kernel, (fun h => by cases h), (fun _ => mem_ALL (i := 1005) rfl rfl), (fun h => by cases h)⟩
def z_m115 : z_MT := (yX8_common, cX8_common, 2, (some .int), 1, 8, 2)
set_option maxRecDepth 20000 in
theorem z_mk115 : z_mok z_m115 := ⟨mem_ALL (i := 1199) rfl rfl, mem_ALL (i := 60) rfl rfl, by decide +kernel, by decide +kernel, by decide +kernel, (fun h => by cases h), (fun _ => mem_ALL (i := 1198) rfl rfl), (fun h => by cases h)⟩
def z_m116 : z_MT := (yX8_isKid, cX8_isKid, 2, (some .boolean), 0, 8, 1)
set_option maxRecDepth 20000 in
theorem z_mk116 : z_mok z_m116 := ⟨mem_ALL (i := 1025) rfl rfl, mem_ALL (i := 60) rfl rfl, by decide +kernel, by decide +kernel, by decide +kernel, (fun _ => ⟨mem_ALL (i := 1024) rfl rfl, mem_ALL (i := 29) rfl rfl, _, _, rfl⟩), (fun h => by cases h), (fun h => by cases h)⟩
def z_m117 : z_MT := (yX8_kid, cX8_kid, 3, (some .int), 0, 8, 2)
set_option maxRecDepth 20000 in
theorem z_mk117 : z_mok z_m117 := ⟨mem_ALL (i := 1032) rfl rfl, mem_ALL (i := 60) rfl rfl, by decide +kernel, by decide +kernel, by decide +kernel, (fun _ => ⟨mem_ALL (i := 1031) rfl rfl, mem_ALL (i := 30) rfl rfl, _, _, rfl⟩), (fun h => by cases h), (fun h => by cases h)⟩
def z_m118 : z_MT := (yX8_seatOf, cX8_seatOf, 2, (some .int), 0, 8, 1)
set_option maxRecDepth 20000 in
theorem z_mk118 : z_mok z_m118 := ⟨mem_ALL (i := 1041) rfl rfl, mem_ALL (i := 60) rfl rfl, by decide +kernel, by decide +kernel, by decide +kernel, (fun _ => ⟨mem_ALL (i := 1040) rfl rfl, mem_ALL (i := 31) rfl rfl, _, _, rfl⟩), (fun h => by cases h), (fun h => by cases h)⟩
def z_m119 : z_MT := (yX8_isSeat, cX8_isSeat, 2, (some .boolean), 0, 8, 1)
set_option maxRecDepth 20000 in
theorem z_mk119 : z_mok z_m119 := ⟨mem_ALL (i := 1049) rfl rfl, mem_ALL (i := 60) rfl rfl, by decide +kernel, by decide +kernel, by decide +kernel, (fun _ => ⟨mem_ALL (i := 1048) rfl rfl, mem_ALL (i := 32) rfl rfl, _, _, rfl⟩), (fun h => by cases h), (fun h => by cases h)⟩
def z_m120 : z_MT := (yX8_letter, cX8_letter, 3, (some .int), 0, 8, 1)
set_option maxRecDepth 20000 in
theorem z_mk120 : z_mok z_m120 := ⟨mem_ALL (i := 961) rfl rfl, mem_ALL (i := 60) rfl rfl, by decide +kernel, by decide +kernel, by decide +kernel, (fun _ => ⟨mem_ALL (i := 959) rfl rfl, mem_ALL (i := 960) rfl rfl, _, _, rfl⟩), (fun h => by cases h), (fun h => by cases h)⟩
def z_m121 : z_MT := (yX8_sign, cX8_sign, 1, (some .int), 0, 8, 0)
set_option maxRecDepth 20000 in
theorem z_mk121 : z_mok z_m121 := ⟨mem_ALL (i := 984) rfl rfl, mem_ALL (i := 60) rfl rfl, by decide +kernel, by decide +kernel, by decide +kernel, (fun _ => ⟨mem_ALL (i := 983) rfl rfl, mem_ALL (i := 22) rfl rfl, _, _, rfl⟩), (fun h => by cases h), (fun h => by cases h)⟩
def z_m122 : z_MT := (yX8_takes, cX8_takes, 2, (some .boolean), 0, 8, 1)
set_option maxRecDepth 20000 in
theorem z_mk122 : z_mok z_m122 := ⟨mem_ALL (i := 992) rfl rfl, mem_ALL (i := 60) rfl rfl, by decide +kernel, by decide +kernel, by decide +kernel, (fun _ => ⟨mem_ALL (i := 991) rfl rfl, mem_ALL (i := 24) rfl rfl, _, _, rfl⟩), (fun h => by cases h), (fun h => by cases h)⟩
def z_m123 : z_MT := (yX8_readsNumber, cX8_readsNumber, 4, (some .boolean), 0, 8, 2)
set_option maxRecDepth 20000 in
theorem z_mk123 : z_mok z_m123 := ⟨mem_ALL (i := 988) rfl rfl, mem_ALL (i := 60) rfl rfl, by decide +kernel, by decide +kernel, by decide +kernel, (fun _ => ⟨mem_ALL (i := 987) rfl rfl, mem_ALL (i := 23) rfl rfl, _, _, rfl⟩), (fun h => by cases h), (fun h => by cases h)⟩
def z_m124 : z_MT := (yX8_kindOf, cX8_kindOf, 1, (some .int), 1, 8, 1)
set_option maxRecDepth 20000 in
theorem z_mk124 : z_mok z_m124 := ⟨mem_ALL (i := 999) rfl rfl, mem_ALL (i := 60) rfl rfl, by decide +kernel, by decide +kernel, by decide +kernel, (fun h => by cases h), (fun _ => mem_ALL (i := 998) rfl rfl), (fun h => by cases h)⟩
def z_m125 : z_MT := (yX8_readsKind, cX8_readsKind, 1, (some .boolean), 0, 8, 0)
set_option maxRecDepth 20000 in
theorem z_mk125 : z_mok z_m125 := ⟨mem_ALL (i := 996) rfl rfl, mem_ALL (i := 60) rfl rfl, by decide +kernel, by decide +kernel, by decide +kernel, (fun _ => ⟨mem_ALL (i := 995) rfl rfl, mem_ALL (i := 25) rfl rfl, _, _, rfl⟩), (fun h => by cases h), (fun h => by cases h)⟩
def z_m126 : z_MT := (yX8_readsSide, cX8_readsSide, 1, (some .boolean), 0, 8, 0)
set_option maxRecDepth 20000 in
theorem z_mk126 : z_mok z_m126 := ⟨mem_ALL (i := 1003) rfl rfl, mem_ALL (i := 60) rfl rfl, by decide +kernel, by decide +kernel, by decide +kernel, (fun _ => ⟨mem_ALL (i := 1002) rfl rfl, mem_ALL (i := 26) rfl rfl, _, _, rfl⟩), (fun h => by cases h), (fun h => by cases h)⟩
def z_m127 : z_MT := (yX8_readsStatement, cX8_readsStatement, 3, (some .boolean), 0, 8, 0)
set_option maxRecDepth 20000 in
theorem z_mk127 : z_mok z_m127 := ⟨mem_ALL (i := 980) rfl rfl, mem_ALL (i := 60) rfl rfl, by decide +kernel, by decide +kernel, by decide +kernel, (fun _ => ⟨mem_ALL (i := 979) rfl rfl, mem_ALL (i := 21) rfl rfl, _, _, rfl⟩), (fun h => by cases h), (fun h => by cases h)⟩
def z_m128 : z_MT := (yX8_readSeat, cX8_readSeat, 2, (some .int), 0, 8, 1)
set_option maxRecDepth 20000 in
theorem z_mk128 : z_mok z_m128 := ⟨mem_ALL (i := 1014) rfl rfl, mem_ALL (i := 60) rfl rfl, by decide +kernel, by decide +kernel, by decide +kernel, (fun _ => ⟨mem_ALL (i := 1013) rfl rfl, mem_ALL (i := 28) rfl rfl, _, _, rfl⟩), (fun h => by cases h), (fun h => by cases h)⟩
def z_m129 : z_MT := (yX8_comes, cX8_comes, 5, (some .boolean), 0, 8, 1)
set_option maxRecDepth 20000 in
theorem z_mk129 : z_mok z_m129 := ⟨mem_ALL (i := 1010) rfl rfl, mem_ALL (i := 60) rfl rfl, by decide +kernel, by decide +kernel, by decide +kernel, (fun _ => ⟨mem_ALL (i := 1009) rfl rfl, mem_ALL (i := 27) rfl rfl, _, _, rfl⟩), (fun h => by cases h), (fun h => by cases h)⟩
def z_m130 : z_MT := (yX8_reads, cX8_reads, 5, (some .int), 0, 8, 0)
set_option maxRecDepth 20000 in
theorem z_mk130 : z_mok z_m130 := ⟨mem_ALL (i := 976) rfl rfl, mem_ALL (i := 60) rfl rfl, by decide +kernel, by decide +kernel, by decide +kernel, (fun _ => ⟨mem_ALL (i := 975) rfl rfl, mem_ALL (i := 20) rfl rfl, _, _, rfl⟩), (fun h => by cases h), (fun h => by cases h)⟩
def z_m131 : z_MT := (yX8_board, cX8_board, 2, (some .int), 0, 8, 0)
set_option maxRecDepth 20000 in
theorem z_mk131 : z_mok z_m131 := ⟨mem_ALL (i := 972) rfl rfl, mem_ALL (i := 60) rfl rfl, by decide +kernel, by decide +kernel, by decide +kernel, (fun _ => ⟨mem_ALL (i := 970) rfl rfl, mem_ALL (i := 971) rfl rfl, _, _, rfl⟩), (fun h => by cases h), (fun h => by cases h)⟩
def z_m132 : z_MT := (yX8_child, cX8_child, 3, (some .int), 0, 8, 2)
set_option maxRecDepth 20000 in
theorem z_mk132 : z_mok z_m132 := ⟨mem_ALL (i := 1021) rfl rfl, mem_ALL (i := 60) rfl rfl, by decide +kernel, by decide +kernel, by decide +kernel, (fun _ => ⟨mem_ALL (i := 1019) rfl rfl, mem_ALL (i := 1020) rfl rfl, _, _, rfl⟩), (fun h => by cases h), (fun h => by cases h)⟩
def z_m133 : z_MT := (yX8_seat, cX8_seat, 2, (some .int), 0, 8, 1)
set_option maxRecDepth 20000 in
theorem z_mk133 : z_mok z_m133 := ⟨mem_ALL (i := 1036) rfl rfl, mem_ALL (i := 60) rfl rfl, by decide +kernel, by decide +kernel, by decide +kernel, (fun _ => ⟨mem_ALL (i := 1034) rfl rfl, mem_ALL (i := 1035) rfl rfl, _, _, rfl⟩), (fun h => by cases h), (fun h => by cases h)⟩
def z_m134 : z_MT := (yX8_whoSits, cX8_whoSits, 3, (some .int), 0, 8, 1)
set_option maxRecDepth 20000 in
theorem z_mk134 : z_mok z_m134 := ⟨mem_ALL (i := 1053) rfl rfl, mem_ALL (i := 60) rfl rfl, by decide +kernel, by decide +kernel, by decide +kernel, (fun _ => ⟨mem_ALL (i := 1052) rfl rfl, mem_ALL (i := 33) rfl rfl, _, _, rfl⟩), (fun h => by cases h), (fun h => by cases h)⟩
def z_m135 : z_MT := (yX8_sit, cX8_sit, 5, (some .int), 0, 8, 2)
set_option maxRecDepth 20000 in
theorem z_mk135 : z_mok z_m135 := ⟨mem_ALL (i := 1045) rfl rfl, mem_ALL (i := 60) rfl rfl, by decide +kernel, by decide +kernel, by decide +kernel, (fun _ => ⟨mem_ALL (i := 1043) rfl rfl, mem_ALL (i := 1044) rfl rfl, _, _, rfl⟩), (fun h => by cases h), (fun h => by cases h)⟩
def z_m136 : z_MT := (yX8_notch, cX8_notch, 4, (some .int), 0, 8, 1)
set_option maxRecDepth 20000 in
theorem z_mk136 : z_mok z_m136 := ⟨mem_ALL (i := 1057) rfl rfl, mem_ALL (i := 60) rfl rfl, by decide +kernel, by decide +kernel, by decide +kernel, (fun _ => ⟨mem_ALL (i := 1055) rfl rfl, mem_ALL (i := 1056) rfl rfl, _, _, rfl⟩), (fun h => by cases h), (fun h => by cases h)⟩
def z_m137 : z_MT := (yX8_armOf, cX8_armOf, 2, (some .int), 0, 8, 1)
set_option maxRecDepth 20000 in
theorem z_mk137 : z_mok z_m137 := ⟨mem_ALL (i := 1077) rfl rfl, mem_ALL (i := 60) rfl rfl, by decide +kernel, by decide +kernel, by decide +kernel, (fun _ => ⟨mem_ALL (i := 1076) rfl rfl, mem_ALL (i := 37) rfl rfl, _, _, rfl⟩), (fun h => by cases h), (fun h => by cases h)⟩
def z_m138 : z_MT := (yX8_turnBy, cX8_turnBy, 6, (some .int), 0, 8, 3)
set_option maxRecDepth 20000 in
theorem z_mk138 : z_mok z_m138 := ⟨mem_ALL (i := 1081) rfl rfl, mem_ALL (i := 60) rfl rfl, by decide +kernel, by decide +kernel, by decide +kernel, (fun _ => ⟨mem_ALL (i := 1080) rfl rfl, mem_ALL (i := 38) rfl rfl, _, _, rfl⟩), (fun h => by cases h), (fun h => by cases h)⟩
def z_m139 : z_MT := (yX8_turnOf, cX8_turnOf, 3, (some .int), 0, 8, 2)
set_option maxRecDepth 20000 in
theorem z_mk139 : z_mok z_m139 := ⟨mem_ALL (i := 1073) rfl rfl, mem_ALL (i := 60) rfl rfl, by decide +kernel, by decide +kernel, by decide +kernel, (fun _ => ⟨mem_ALL (i := 1072) rfl rfl, mem_ALL (i := 36) rfl rfl, _, _, rfl⟩), (fun h => by cases h), (fun h => by cases h)⟩
def z_m140 : z_MT := (yX8_bare, cX8_bare, 2, (some .int), 0, 8, 1)
set_option maxRecDepth 20000 in
theorem z_mk140 : z_mok z_m140 := ⟨mem_ALL (i := 1069) rfl rfl, mem_ALL (i := 60) rfl rfl, by decide +kernel, by decide +kernel, by decide +kernel, (fun _ => ⟨mem_ALL (i := 1068) rfl rfl, mem_ALL (i := 35) rfl rfl, _, _, rfl⟩), (fun h => by cases h), (fun h => by cases h)⟩
def z_m141 : z_MT := (yX8_sumNow, cX8_sumNow, 3, (some .int), 0, 8, 0)
set_option maxRecDepth 20000 in
theorem z_mk141 : z_mok z_m141 := ⟨mem_ALL (i := 1065) rfl rfl, mem_ALL (i := 60) rfl rfl, by decide +kernel, by decide +kernel, by decide +kernel, (fun _ => ⟨mem_ALL (i := 1064) rfl rfl, mem_ALL (i := 34) rfl rfl, _, _, rfl⟩), (fun h => by cases h), (fun h => by cases h)⟩
def z_m142 : z_MT := (yX8_sum, cX8_sum, 1, (some .int), 0, 8, 0)
set_option maxRecDepth 20000 in
theorem z_mk142 : z_mok z_m142 := ⟨mem_ALL (i := 1061) rfl rfl, mem_ALL (i := 60) rfl rfl, by decide +kernel, by decide +kernel, by decide +kernel, (fun _ => ⟨mem_ALL (i := 1059) rfl rfl, mem_ALL (i := 1060) rfl rfl, _, _, rfl⟩), (fun h => by cases h), (fun h => by cases h)⟩
def z_m143 : z_MT := (yX8_downBy, cX8_downBy, 1, (some .int), 1, 8, 1)
set_option maxRecDepth 20000 in
theorem z_mk143 : z_mok z_m143 := ⟨mem_ALL (i := 1088) rfl rfl, mem_ALL (i := 60) rfl rfl, by decide +kernel, by decide +kernel, by decide +kernel, (fun h => by cases h), (fun _ => mem_ALL (i := 1087) rfl rfl), (fun h => by cases h)⟩
def z_m144 : z_MT := (yX8_down, cX8_down, 1, (some .int), 0, 8, 0)
set_option maxRecDepth 20000 in
theorem z_mk144 : z_mok z_m144 := ⟨mem_ALL (i := 1085) rfl rfl, mem_ALL (i := 60) rfl rfl, by decide +kernel, by decide +kernel, by decide +kernel, (fun _ => ⟨mem_ALL (i := 1083) rfl rfl, mem_ALL (i := 1084) rfl rfl, _, _, rfl⟩), (fun h => by cases h), (fun h => by cases h)⟩
def z_m145 : z_MT := (yX8_places, cX8_places, 6, none, 0, 8, 2)
set_option maxRecDepth 20000 in
theorem z_mk145 : z_mok z_m145 := ⟨mem_ALL (i := 1100) rfl rfl, mem_ALL (i := 60) rfl rfl, by decide +kernel, by decide +kernel, by decide +kernel, (fun _ => ⟨mem_ALL (i := 1099) rfl rfl, mem_ALL (i := 40) rfl rfl, _, _, rfl⟩), (fun h => by cases h), (fun h => by cases h)⟩
def z_m146 : z_MT := (yX8_findsPlacings, cX8_findsPlacings, 1, none, 0, 8, 0)
set_option maxRecDepth 20000 in
theorem z_mk146 : z_mok z_m146 := ⟨mem_ALL (i := 1096) rfl rfl, mem_ALL (i := 60) rfl rfl, by decide +kernel, by decide +kernel, by decide +kernel, (fun _ => ⟨mem_ALL (i := 1095) rfl rfl, mem_ALL (i := 39) rfl rfl, _, _, rfl⟩), (fun h => by cases h), (fun h => by cases h)⟩
def z_m147 : z_MT := (yX8_level, cX8_level, 1, (some .int), 0, 8, 0)
set_option maxRecDepth 20000 in
theorem z_mk147 : z_mok z_m147 := ⟨mem_ALL (i := 1092) rfl rfl, mem_ALL (i := 60) rfl rfl, by decide +kernel, by decide +kernel, by decide +kernel, (fun _ => ⟨mem_ALL (i := 1090) rfl rfl, mem_ALL (i := 1091) rfl rfl, _, _, rfl⟩), (fun h => by cases h), (fun h => by cases h)⟩
def z_m148 : z_MT := (yX8_first, cX8_first, 3, (some .int), 0, 8, 2)
set_option maxRecDepth 20000 in
theorem z_mk148 : z_mok z_m148 := ⟨mem_ALL (i := 1104) rfl rfl, mem_ALL (i := 60) rfl rfl, by decide +kernel, by decide +kernel, by decide +kernel, (fun _ => ⟨mem_ALL (i := 1102) rfl rfl, mem_ALL (i := 1103) rfl rfl, _, _, rfl⟩), (fun h => by cases h), (fun h => by cases h)⟩
def z_m149 : z_MT := (yX8_off, cX8_off, 1, (some .int), 0, 8, 0)
set_option maxRecDepth 20000 in
theorem z_mk149 : z_mok z_m149 := ⟨mem_ALL (i := 1108) rfl rfl, mem_ALL (i := 60) rfl rfl, by decide +kernel, by decide +kernel, by decide +kernel, (fun _ => ⟨mem_ALL (i := 1106) rfl rfl, mem_ALL (i := 1107) rfl rfl, _, _, rfl⟩), (fun h => by cases h), (fun h => by cases h)⟩
def z_m150 : z_MT := (yX8_bucket, cX8_bucket, 5, (some .int), 0, 8, 1)
set_option maxRecDepth 20000 in
theorem z_mk150 : z_mok z_m150 := ⟨mem_ALL (i := 1112) rfl rfl, mem_ALL (i := 60) rfl rfl, by decide +kernel, by decide +kernel, by decide +kernel, (fun _ => ⟨mem_ALL (i := 1110) rfl rfl, mem_ALL (i := 1111) rfl rfl, _, _, rfl⟩), (fun h => by cases h), (fun h => by cases h)⟩
def z_m151 : z_MT := (yX8_notchBest, cX8_notchBest, 6, (some .int), 0, 8, 0)
set_option maxRecDepth 20000 in
theorem z_mk151 : z_mok z_m151 := ⟨mem_ALL (i := 1116) rfl rfl, mem_ALL (i := 60) rfl rfl, by decide +kernel, by decide +kernel, by decide +kernel, (fun _ => ⟨mem_ALL (i := 1114) rfl rfl, mem_ALL (i := 1115) rfl rfl, _, _, rfl⟩), (fun h => by cases h), (fun h => by cases h)⟩
def z_m152 : z_MT := (yX8_sitters, cX8_sitters, 3, (some .int), 0, 8, 0)
set_option maxRecDepth 20000 in
theorem z_mk152 : z_mok z_m152 := ⟨mem_ALL (i := 1132) rfl rfl, mem_ALL (i := 60) rfl rfl, by decide +kernel, by decide +kernel, by decide +kernel, (fun _ => ⟨mem_ALL (i := 1131) rfl rfl, mem_ALL (i := 43) rfl rfl, _, _, rfl⟩), (fun h => by cases h), (fun h => by cases h)⟩
def z_m153 : z_MT := (yX8_gets, cX8_gets, 8, none, 0, 8, 5)
set_option maxRecDepth 20000 in
theorem z_mk153 : z_mok z_m153 := ⟨mem_ALL (i := 1128) rfl rfl, mem_ALL (i := 60) rfl rfl, by decide +kernel, by decide +kernel, by decide +kernel, (fun _ => ⟨mem_ALL (i := 1127) rfl rfl, mem_ALL (i := 42) rfl rfl, _, _, rfl⟩), (fun h => by cases h), (fun h => by cases h)⟩
def z_m154 : z_MT := (yX8_findsOrders, cX8_findsOrders, 2, none, 0, 8, 1)
set_option maxRecDepth 20000 in
theorem z_mk154 : z_mok z_m154 := ⟨mem_ALL (i := 1124) rfl rfl, mem_ALL (i := 60) rfl rfl, by decide +kernel, by decide +kernel, by decide +kernel, (fun _ => ⟨mem_ALL (i := 1123) rfl rfl, mem_ALL (i := 41) rfl rfl, _, _, rfl⟩), (fun h => by cases h), (fun h => by cases h)⟩
def z_m155 : z_MT := (yX8_orders, cX8_orders, 2, (some .int), 0, 8, 1)
set_option maxRecDepth 20000 in
theorem z_mk155 : z_mok z_m155 := ⟨mem_ALL (i := 1120) rfl rfl, mem_ALL (i := 60) rfl rfl, by decide +kernel, by decide +kernel, by decide +kernel, (fun _ => ⟨mem_ALL (i := 1118) rfl rfl, mem_ALL (i := 1119) rfl rfl, _, _, rfl⟩), (fun h => by cases h), (fun h => by cases h)⟩
def z_m156 : z_MT := (yX8_order, cX8_order, 3, (some .int), 0, 8, 2)
set_option maxRecDepth 20000 in
theorem z_mk156 : z_mok z_m156 := ⟨mem_ALL (i := 1136) rfl rfl, mem_ALL (i := 60) rfl rfl, by decide +kernel, by decide +kernel, by decide +kernel, (fun _ => ⟨mem_ALL (i := 1134) rfl rfl, mem_ALL (i := 1135) rfl rfl, _, _, rfl⟩), (fun h => by cases h), (fun h => by cases h)⟩
def z_m157 : z_MT := (yX8_leastBang, cX8_leastBang, 1, (some .int), 0, 8, 0)
set_option maxRecDepth 20000 in
theorem z_mk157 : z_mok z_m157 := ⟨mem_ALL (i := 1140) rfl rfl, mem_ALL (i := 60) rfl rfl, by decide +kernel, by decide +kernel, by decide +kernel, (fun _ => ⟨mem_ALL (i := 1138) rfl rfl, mem_ALL (i := 1139) rfl rfl, _, _, rfl⟩), (fun h => by cases h), (fun h => by cases h)⟩
def z_m158 : z_MT := (yX8_go, cX8_go, 7, (some .int), 0, 8, 4)
set_option maxRecDepth 20000 in
theorem z_mk158 : z_mok z_m158 := ⟨mem_ALL (i := 1144) rfl rfl, mem_ALL (i := 60) rfl rfl, by decide +kernel, by decide +kernel, by decide +kernel, (fun _ => ⟨mem_ALL (i := 1142) rfl rfl, mem_ALL (i := 1143) rfl rfl, _, _, rfl⟩), (fun h => by cases h), (fun h => by cases h)⟩
def z_m159 : z_MT := (yX8_downWith, cX8_downWith, 5, (some .int), 0, 8, 4)
set_option maxRecDepth 20000 in
theorem z_mk159 : z_mok z_m159 := ⟨mem_ALL (i := 1156) rfl rfl, mem_ALL (i := 60) rfl rfl, by decide +kernel, by decide +kernel, by decide +kernel, (fun _ => ⟨mem_ALL (i := 1155) rfl rfl, mem_ALL (i := 45) rfl rfl, _, _, rfl⟩), (fun h => by cases h), (fun h => by cases h)⟩
def z_m160 : z_MT := (yX8_fits, cX8_fits, 4, (some .boolean), 0, 8, 1)
set_option maxRecDepth 20000 in
theorem z_mk160 : z_mok z_m160 := ⟨mem_ALL (i := 1152) rfl rfl, mem_ALL (i := 60) rfl rfl, by decide +kernel, by decide +kernel, by decide +kernel, (fun _ => ⟨mem_ALL (i := 1151) rfl rfl, mem_ALL (i := 44) rfl rfl, _, _, rfl⟩), (fun h => by cases h), (fun h => by cases h)⟩
def z_m161 : z_MT := (yX8_fitting, cX8_fitting, 6, (some .int), 0, 8, 1)
set_option maxRecDepth 20000 in
theorem z_mk161 : z_mok z_m161 := ⟨mem_ALL (i := 1148) rfl rfl, mem_ALL (i := 60) rfl rfl, by decide +kernel, by decide +kernel, by decide +kernel, (fun _ => ⟨mem_ALL (i := 1146) rfl rfl, mem_ALL (i := 1147) rfl rfl, _, _, rfl⟩), (fun h => by cases h), (fun h => by cases h)⟩
def z_m162 : z_MT := (yX8_greatestPart, cX8_greatestPart, 5, (some .int), 0, 8, 3)
set_option maxRecDepth 20000 in
theorem z_mk162 : z_mok z_m162 := ⟨mem_ALL (i := 1164) rfl rfl, mem_ALL (i := 60) rfl rfl, by decide +kernel, by decide +kernel, by decide +kernel, (fun _ => ⟨mem_ALL (i := 1163) rfl rfl, mem_ALL (i := 46) rfl rfl, _, _, rfl⟩), (fun h => by cases h), (fun h => by cases h)⟩
def z_m163 : z_MT := (yX8_next, cX8_next, 7, (some .int), 0, 8, 2)
set_option maxRecDepth 20000 in
theorem z_mk163 : z_mok z_m163 := ⟨mem_ALL (i := 1160) rfl rfl, mem_ALL (i := 60) rfl rfl, by decide +kernel, by decide +kernel, by decide +kernel, (fun _ => ⟨mem_ALL (i := 1158) rfl rfl, mem_ALL (i := 1159) rfl rfl, _, _, rfl⟩), (fun h => by cases h), (fun h => by cases h)⟩
def z_m164 : z_MT := (yX8_inertiaNow, cX8_inertiaNow, 3, (some .int), 0, 8, 0)
set_option maxRecDepth 20000 in
theorem z_mk164 : z_mok z_m164 := ⟨mem_ALL (i := 1172) rfl rfl, mem_ALL (i := 60) rfl rfl, by decide +kernel, by decide +kernel, by decide +kernel, (fun _ => ⟨mem_ALL (i := 1171) rfl rfl, mem_ALL (i := 47) rfl rfl, _, _, rfl⟩), (fun h => by cases h), (fun h => by cases h)⟩
def z_m165 : z_MT := (yX8_inertia, cX8_inertia, 1, (some .int), 0, 8, 0)
set_option maxRecDepth 20000 in
theorem z_mk165 : z_mok z_m165 := ⟨mem_ALL (i := 1168) rfl rfl, mem_ALL (i := 60) rfl rfl, by decide +kernel, by decide +kernel, by decide +kernel, (fun _ => ⟨mem_ALL (i := 1166) rfl rfl, mem_ALL (i := 1167) rfl rfl, _, _, rfl⟩), (fun h => by cases h), (fun h => by cases h)⟩
def z_m166 : z_MT := (yX8_goesTenth, cX8_goesTenth, 2, none, 0, 8, 1)
set_option maxRecDepth 20000 in
theorem z_mk166 : z_mok z_m166 := ⟨mem_ALL (i := 1184) rfl rfl, mem_ALL (i := 60) rfl rfl, by decide +kernel, by decide +kernel, by decide +kernel, (fun _ => ⟨mem_ALL (i := 1183) rfl rfl, mem_ALL (i := 49) rfl rfl, _, _, rfl⟩), (fun h => by cases h), (fun h => by cases h)⟩
def z_m167 : z_MT := (yX8_more, cX8_more, 1, (some .int), 0, 8, 0)
set_option maxRecDepth 20000 in
theorem z_mk167 : z_mok z_m167 := ⟨mem_ALL (i := 1180) rfl rfl, mem_ALL (i := 60) rfl rfl, by decide +kernel, by decide +kernel, by decide +kernel, (fun _ => ⟨mem_ALL (i := 1179) rfl rfl, mem_ALL (i := 48) rfl rfl, _, _, rfl⟩), (fun h => by cases h), (fun h => by cases h)⟩
def z_m168 : z_MT := (yX8_comesDown, cX8_comesDown, 4, (some .int), 0, 8, 1)
set_option maxRecDepth 20000 in
theorem z_mk168 : z_mok z_m168 := ⟨mem_ALL (i := 1176) rfl rfl, mem_ALL (i := 60) rfl rfl, by decide +kernel, by decide +kernel, by decide +kernel, (fun _ => ⟨mem_ALL (i := 1174) rfl rfl, mem_ALL (i := 1175) rfl rfl, _, _, rfl⟩), (fun h => by cases h), (fun h => by cases h)⟩
def z_m169 : z_MT := (yX8_legsOn, cX8_legsOn, 4, (some .int), 0, 8, 1)
set_option maxRecDepth 20000 in
theorem z_mk169 : z_mok z_m169 := ⟨mem_ALL (i := 1192) rfl rfl, mem_ALL (i := 60) rfl rfl, by decide +kernel, by decide +kernel, by decide +kernel, (fun _ => ⟨mem_ALL (i := 1191) rfl rfl, mem_ALL (i := 50) rfl rfl, _, _, rfl⟩), (fun h => by cases h), (fun h => by cases h)⟩
def z_m170 : z_MT := (yX8_up, cX8_up, 7, (some .int), 0, 8, 1)
set_option maxRecDepth 20000 in
theorem z_mk170 : z_mok z_m170 := ⟨mem_ALL (i := 1188) rfl rfl, mem_ALL (i := 60) rfl rfl, by decide +kernel, by decide +kernel, by decide +kernel, (fun _ => ⟨mem_ALL (i := 1186) rfl rfl, mem_ALL (i := 1187) rfl rfl, _, _, rfl⟩), (fun h => by cases h), (fun h => by cases h)⟩
def z_m171 : z_MT := (yX8_thrown, cX8_thrown, 12, (some .int), 0, 8, 5)
set_option maxRecDepth 20000 in
theorem z_mk171 : z_mok z_m171 := ⟨mem_ALL (i := 1196) rfl rfl, mem_ALL (i := 60) rfl rfl, by decide +kernel, by decide +kernel, by decide +kernel, (fun _ => ⟨mem_ALL (i := 1194) rfl rfl, mem_ALL (i := 1195) rfl rfl, _, _, rfl⟩), (fun h => by cases h), (fun h => by cases h)⟩
def z_m172 : z_MT := (yX8_highest, cX8_highest, 7, (some .int), 0, 8, 1)
set_option maxRecDepth 20000 in
theorem z_mk172 : z_mok z_m172 := ⟨mem_ALL (i := 1203) rfl rfl, mem_ALL (i := 60) rfl rfl, by decide +kernel, by decide +kernel, by decide +kernel, (fun _ => ⟨mem_ALL (i := 1201) rfl rfl, mem_ALL (i := 1202) rfl rfl, _, _, rfl⟩), (fun h => by cases h), (fun h => by cases h)⟩
def z_m173 : z_MT := (yX8_areDigits, cX8_areDigits, 1, (some .boolean), 1, 8, 1)
set_option maxRecDepth 20000 in
theorem z_mk173 : z_mok z_m173 := ⟨mem_ALL (i := 1210) rfl rfl, mem_ALL (i := 60) rfl rfl, by decide +kernel, by decide +kernel, by decide +kernel, (fun h => by cases h), (fun _ => mem_ALL (i := 1209) rfl rfl), (fun h => by cases h)⟩
def z_m174 : z_MT := (yX8_compared, cX8_compared, 2, (some .int), 1, 8, 2)
set_option maxRecDepth 20000 in
theorem z_mk174 : z_mok z_m174 := ⟨mem_ALL (i := 1216) rfl rfl, mem_ALL (i := 60) rfl rfl, by decide +kernel, by decide +kernel, by decide +kernel, (fun h => by cases h), (fun _ => mem_ALL (i := 1215) rfl rfl), (fun h => by cases h)⟩
def z_m175 : z_MT := (yX8_guessBy, cX8_guessBy, 7, (some .int), 1, 8, 3)
set_option maxRecDepth 20000 in
theorem z_mk175 : z_mok z_m175 := ⟨mem_ALL (i := 1213) rfl rfl, mem_ALL (i := 60) rfl rfl, by decide +kernel, by decide +kernel, by decide +kernel, (fun h => by cases h), (fun _ => mem_ALL (i := 1212) rfl rfl), (fun h => by cases h)⟩
def z_m176 : z_MT := (yX8_guess, cX8_guess, 5, (some .int), 0, 8, 3)
set_option maxRecDepth 20000 in
theorem z_mk176 : z_mok z_m176 := ⟨mem_ALL (i := 1207) rfl rfl, mem_ALL (i := 60) rfl rfl, by decide +kernel, by decide +kernel, by decide +kernel, (fun _ => ⟨mem_ALL (i := 1205) rfl rfl, mem_ALL (i := 1206) rfl rfl, _, _, rfl⟩), (fun h => by cases h), (fun h => by cases h)⟩
def z_m177 : z_MT := (yX8_parting, cX8_parting, 10, (some .int), 0, 8, 3)
set_option maxRecDepth 20000 in
theorem z_mk177 : z_mok z_m177 := ⟨mem_ALL (i := 1220) rfl rfl, mem_ALL (i := 60) rfl rfl, by decide +kernel, by decide +kernel, by decide +kernel, (fun _ => ⟨mem_ALL (i := 1218) rfl rfl, mem_ALL (i := 1219) rfl rfl, _, _, rfl⟩), (fun h => by cases h), (fun h => by cases h)⟩
def z_m178 : z_MT := (yX8_guessed, cX8_guessed, 6, (some .int), 0, 8, 3)
set_option maxRecDepth 20000 in
theorem z_mk178 : z_mok z_m178 := ⟨mem_ALL (i := 1224) rfl rfl, mem_ALL (i := 60) rfl rfl, by decide +kernel, by decide +kernel, by decide +kernel, (fun _ => ⟨mem_ALL (i := 1222) rfl rfl, mem_ALL (i := 1223) rfl rfl, _, _, rfl⟩), (fun h => by cases h), (fun h => by cases h)⟩
def z_m179 : z_MT := (yX8_rules, cX8_rules, 5, (some .int), 0, 8, 0)
set_option maxRecDepth 20000 in
theorem z_mk179 : z_mok z_m179 := ⟨mem_ALL (i := 1228) rfl rfl, mem_ALL (i := 60) rfl rfl, by decide +kernel, by decide +kernel, by decide +kernel, (fun _ => ⟨mem_ALL (i := 1226) rfl rfl, mem_ALL (i := 1227) rfl rfl, _, _, rfl⟩), (fun h => by cases h), (fun h => by cases h)⟩
def z_m180 : z_MT := (yX8_seeds, cX8_seeds, 11, (some .int), 0, 8, 3)
set_option maxRecDepth 20000 in
theorem z_mk180 : z_mok z_m180 := ⟨mem_ALL (i := 1232) rfl rfl, mem_ALL (i := 60) rfl rfl, by decide +kernel, by decide +kernel, by decide +kernel, (fun _ => ⟨mem_ALL (i := 1230) rfl rfl, mem_ALL (i := 1231) rfl rfl, _, _, rfl⟩), (fun h => by cases h), (fun h => by cases h)⟩
def z_m181 : z_MT := (yX8_row, cX8_row, 3, (some .int), 0, 8, 1)
set_option maxRecDepth 20000 in
theorem z_mk181 : z_mok z_m181 := ⟨mem_ALL (i := 1239) rfl rfl, mem_ALL (i := 60) rfl rfl, by decide +kernel, by decide +kernel, by decide +kernel, (fun _ => ⟨mem_ALL (i := 1237) rfl rfl, mem_ALL (i := 1238) rfl rfl, _, _, rfl⟩), (fun h => by cases h), (fun h => by cases h)⟩
def z_m182 : z_MT := (yX8_judge, cX8_judge, 3, (some .int), 0, 8, 0)
set_option maxRecDepth 20000 in
theorem z_mk182 : z_mok z_m182 := ⟨mem_ALL (i := 1243) rfl rfl, mem_ALL (i := 60) rfl rfl, by decide +kernel, by decide +kernel, by decide +kernel, (fun _ => ⟨mem_ALL (i := 1241) rfl rfl, mem_ALL (i := 1242) rfl rfl, _, _, rfl⟩), (fun h => by cases h), (fun h => by cases h)⟩
def z_m183 : z_MT := (yX8_image, cX8_image, 1, (some .int), 0, 8, 0)
set_option maxRecDepth 20000 in
theorem z_mk183 : z_mok z_m183 := ⟨mem_ALL (i := 1247) rfl rfl, mem_ALL (i := 60) rfl rfl, by decide +kernel, by decide +kernel, by decide +kernel, (fun _ => ⟨mem_ALL (i := 1245) rfl rfl, mem_ALL (i := 1246) rfl rfl, _, _, rfl⟩), (fun h => by cases h), (fun h => by cases h)⟩
def z_m184 : z_MT := (yX8_on, cX8_on, 1, (some .int), 0, 8, 0)
set_option maxRecDepth 20000 in
theorem z_mk184 : z_mok z_m184 := ⟨mem_ALL (i := 1251) rfl rfl, mem_ALL (i := 60) rfl rfl, by decide +kernel, by decide +kernel, by decide +kernel, (fun _ => ⟨mem_ALL (i := 1249) rfl rfl, mem_ALL (i := 1250) rfl rfl, _, _, rfl⟩), (fun h => by cases h), (fun h => by cases h)⟩
def z_m185 : z_MT := (yX8_count, cX8_count, 2, (some .int), 0, 8, 1)
set_option maxRecDepth 20000 in
theorem z_mk185 : z_mok z_m185 := ⟨mem_ALL (i := 1255) rfl rfl, mem_ALL (i := 60) rfl rfl, by decide +kernel, by decide +kernel, by decide +kernel, (fun _ => ⟨mem_ALL (i := 1253) rfl rfl, mem_ALL (i := 1254) rfl rfl, _, _, rfl⟩), (fun h => by cases h), (fun h => by cases h)⟩
def z_m186 : z_MT := (yJ6_signum_0f7a4, cJ6_signum_0f7a4, 1, (some .int), 1, 10, 1)
set_option maxRecDepth 20000 in
theorem z_mk186 : z_mok z_m186 := ⟨mem_ALL (i := 574) rfl rfl, mem_ALL (i := 67) rfl rfl, by decide +kernel, by decide +kernel, by decide +kernel, (fun h => by cases h), (fun _ => mem_ALL (i := 573) rfl rfl), (fun h => by cases h)⟩
def z_m187 : z_MT := (yJ0_length_8abf5, cJ0_length_8abf5, 1, (some .int), 2, 99, 0)
set_option maxRecDepth 20000 in
theorem z_mk187 : z_mok z_m187 := ⟨mem_ALL (i := 397) rfl rfl, mem_ALL (i := 61) rfl rfl, by decide +kernel, by decide +kernel, by decide +kernel, (fun h => by cases h), (fun h => by cases h), (fun _ => ⟨mem_ALL (i := 395) rfl rfl, mem_ALL (i := 396) rfl rfl, rfl⟩)⟩
def z_m188 : z_MT := (yJ0_isEmpty_aae02, cJ0_isEmpty_aae02, 1, (some .boolean), 2, 99, 0)
set_option maxRecDepth 20000 in
theorem z_mk188 : z_mok z_m188 := ⟨mem_ALL (i := 393) rfl rfl, mem_ALL (i := 61) rfl rfl, by decide +kernel, by decide +kernel, by decide +kernel, (fun h => by cases h), (fun h => by cases h), (fun _ => ⟨mem_ALL (i := 391) rfl rfl, mem_ALL (i := 392) rfl rfl, rfl⟩)⟩
def z_m189 : z_MT := (yJ0_charAt_5068e, cJ0_charAt_5068e, 2, (some .char), 2, 99, 1)
set_option maxRecDepth 20000 in
theorem z_mk189 : z_mok z_m189 := ⟨mem_ALL (i := 407) rfl rfl, mem_ALL (i := 61) rfl rfl, by decide +kernel, by decide +kernel, by decide +kernel, (fun h => by cases h), (fun h => by cases h), (fun _ => ⟨mem_ALL (i := 405) rfl rfl, mem_ALL (i := 406) rfl rfl, rfl⟩)⟩
def z_mg0 : List z_MT := [z_m0, z_m1, z_m2, z_m3, z_m4, z_m5, z_m6, z_m7, z_m8, z_m9, z_m10, z_m11]
theorem z_mgk0 : ∀ e ∈ z_mg0, z_mok e := List.forall_mem_cons.mpr ⟨z_mk0, List.forall_mem_cons.mpr ⟨z_mk1, List.forall_mem_cons.mpr ⟨z_mk2, List.forall_mem_cons.mpr ⟨z_mk3, List.forall_mem_cons.mpr ⟨z_mk4, List.forall_mem_cons.mpr ⟨z_mk5, List.forall_mem_cons.mpr ⟨z_mk6, List.forall_mem_cons.mpr ⟨z_mk7, List.forall_mem_cons.mpr ⟨z_mk8, List.forall_mem_cons.mpr ⟨z_mk9, List.forall_mem_cons.mpr ⟨z_mk10, List.forall_mem_cons.mpr ⟨z_mk11, fun _ h => absurd h List.not_mem_nil⟩⟩⟩⟩⟩⟩⟩⟩⟩⟩⟩⟩
def z_mg1 : List z_MT := [z_m12, z_m13, z_m14, z_m15, z_m16, z_m17, z_m18, z_m19, z_m20, z_m21, z_m22, z_m23]
theorem z_mgk1 : ∀ e ∈ z_mg1, z_mok e := List.forall_mem_cons.mpr ⟨z_mk12, List.forall_mem_cons.mpr ⟨z_mk13, List.forall_mem_cons.mpr ⟨z_mk14, List.forall_mem_cons.mpr ⟨z_mk15, List.forall_mem_cons.mpr ⟨z_mk16, List.forall_mem_cons.mpr ⟨z_mk17, List.forall_mem_cons.mpr ⟨z_mk18, List.forall_mem_cons.mpr ⟨z_mk19, List.forall_mem_cons.mpr ⟨z_mk20, List.forall_mem_cons.mpr ⟨z_mk21, List.forall_mem_cons.mpr ⟨z_mk22, List.forall_mem_cons.mpr ⟨z_mk23, fun _ h => absurd h List.not_mem_nil⟩⟩⟩⟩⟩⟩⟩⟩⟩⟩⟩⟩
def z_mg2 : List z_MT := [z_m24, z_m25, z_m26, z_m27, z_m28, z_m29, z_m30, z_m31, z_m32, z_m33, z_m34, z_m35]
theorem z_mgk2 : ∀ e ∈ z_mg2, z_mok e := List.forall_mem_cons.mpr ⟨z_mk24, List.forall_mem_cons.mpr ⟨z_mk25, List.forall_mem_cons.mpr ⟨z_mk26, List.forall_mem_cons.mpr ⟨z_mk27, List.forall_mem_cons.mpr ⟨z_mk28, List.forall_mem_cons.mpr ⟨z_mk29, List.forall_mem_cons.mpr ⟨z_mk30, List.forall_mem_cons.mpr ⟨z_mk31, List.forall_mem_cons.mpr ⟨z_mk32, List.forall_mem_cons.mpr ⟨z_mk33, List.forall_mem_cons.mpr ⟨z_mk34, List.forall_mem_cons.mpr ⟨z_mk35, fun _ h => absurd h List.not_mem_nil⟩⟩⟩⟩⟩⟩⟩⟩⟩⟩⟩⟩
def z_mg3 : List z_MT := [z_m36, z_m37, z_m38, z_m39, z_m40, z_m41, z_m42, z_m43, z_m44, z_m45, z_m46, z_m47]
theorem z_mgk3 : ∀ e ∈ z_mg3, z_mok e := List.forall_mem_cons.mpr ⟨z_mk36, List.forall_mem_cons.mpr ⟨z_mk37, List.forall_mem_cons.mpr ⟨z_mk38, List.forall_mem_cons.mpr ⟨z_mk39, List.forall_mem_cons.mpr ⟨z_mk40, List.forall_mem_cons.mpr ⟨z_mk41, List.forall_mem_cons.mpr ⟨z_mk42, List.forall_mem_cons.mpr ⟨z_mk43, List.forall_mem_cons.mpr ⟨z_mk44, List.forall_mem_cons.mpr ⟨z_mk45, List.forall_mem_cons.mpr ⟨z_mk46, List.forall_mem_cons.mpr ⟨z_mk47, fun _ h => absurd h List.not_mem_nil⟩⟩⟩⟩⟩⟩⟩⟩⟩⟩⟩⟩
def z_mg4 : List z_MT := [z_m48, z_m49, z_m50, z_m51, z_m52, z_m53, z_m54, z_m55, z_m56, z_m57, z_m58, z_m59]
theorem z_mgk4 : ∀ e ∈ z_mg4, z_mok e := List.forall_mem_cons.mpr ⟨z_mk48, List.forall_mem_cons.mpr ⟨z_mk49, List.forall_mem_cons.mpr ⟨z_mk50, List.forall_mem_cons.mpr ⟨z_mk51, List.forall_mem_cons.mpr ⟨z_mk52, List.forall_mem_cons.mpr ⟨z_mk53, List.forall_mem_cons.mpr ⟨z_mk54, List.forall_mem_cons.mpr ⟨z_mk55, List.forall_mem_cons.mpr ⟨z_mk56, List.forall_mem_cons.mpr ⟨z_mk57, List.forall_mem_cons.mpr ⟨z_mk58, List.forall_mem_cons.mpr ⟨z_mk59, fun _ h => absurd h List.not_mem_nil⟩⟩⟩⟩⟩⟩⟩⟩⟩⟩⟩⟩
def z_mg5 : List z_MT := [z_m60, z_m61, z_m62, z_m63, z_m64, z_m65, z_m66, z_m67, z_m68, z_m69, z_m70, z_m71]
theorem z_mgk5 : ∀ e ∈ z_mg5, z_mok e := List.forall_mem_cons.mpr ⟨z_mk60, List.forall_mem_cons.mpr ⟨z_mk61, List.forall_mem_cons.mpr ⟨z_mk62, List.forall_mem_cons.mpr ⟨z_mk63, List.forall_mem_cons.mpr ⟨z_mk64, List.forall_mem_cons.mpr ⟨z_mk65, List.forall_mem_cons.mpr ⟨z_mk66, List.forall_mem_cons.mpr ⟨z_mk67, List.forall_mem_cons.mpr ⟨z_mk68, List.forall_mem_cons.mpr ⟨z_mk69, List.forall_mem_cons.mpr ⟨z_mk70, List.forall_mem_cons.mpr ⟨z_mk71, fun _ h => absurd h List.not_mem_nil⟩⟩⟩⟩⟩⟩⟩⟩⟩⟩⟩⟩
def z_mg6 : List z_MT := [z_m72, z_m73, z_m74, z_m75, z_m76, z_m77, z_m78, z_m79, z_m80, z_m81, z_m82, z_m83]
theorem z_mgk6 : ∀ e ∈ z_mg6, z_mok e := List.forall_mem_cons.mpr ⟨z_mk72, List.forall_mem_cons.mpr ⟨z_mk73, List.forall_mem_cons.mpr ⟨z_mk74, List.forall_mem_cons.mpr ⟨z_mk75, List.forall_mem_cons.mpr ⟨z_mk76, List.forall_mem_cons.mpr ⟨z_mk77, List.forall_mem_cons.mpr ⟨z_mk78, List.forall_mem_cons.mpr ⟨z_mk79, List.forall_mem_cons.mpr ⟨z_mk80, List.forall_mem_cons.mpr ⟨z_mk81, List.forall_mem_cons.mpr ⟨z_mk82, List.forall_mem_cons.mpr ⟨z_mk83, fun _ h => absurd h List.not_mem_nil⟩⟩⟩⟩⟩⟩⟩⟩⟩⟩⟩⟩
def z_mg7 : List z_MT := [z_m84, z_m85, z_m86, z_m87, z_m88, z_m89, z_m90, z_m91, z_m92, z_m93, z_m94, z_m95]
theorem z_mgk7 : ∀ e ∈ z_mg7, z_mok e := List.forall_mem_cons.mpr ⟨z_mk84, List.forall_mem_cons.mpr ⟨z_mk85, List.forall_mem_cons.mpr ⟨z_mk86, List.forall_mem_cons.mpr ⟨z_mk87, List.forall_mem_cons.mpr ⟨z_mk88, List.forall_mem_cons.mpr ⟨z_mk89, List.forall_mem_cons.mpr ⟨z_mk90, List.forall_mem_cons.mpr ⟨z_mk91, List.forall_mem_cons.mpr ⟨z_mk92, List.forall_mem_cons.mpr ⟨z_mk93, List.forall_mem_cons.mpr ⟨z_mk94, List.forall_mem_cons.mpr ⟨z_mk95, fun _ h => absurd h List.not_mem_nil⟩⟩⟩⟩⟩⟩⟩⟩⟩⟩⟩⟩
def z_mg8 : List z_MT := [z_m96, z_m97, z_m98, z_m99, z_m100, z_m101, z_m102, z_m103, z_m104, z_m105, z_m106, z_m107]
theorem z_mgk8 : ∀ e ∈ z_mg8, z_mok e := List.forall_mem_cons.mpr ⟨z_mk96, List.forall_mem_cons.mpr ⟨z_mk97, List.forall_mem_cons.mpr ⟨z_mk98, List.forall_mem_cons.mpr ⟨z_mk99, List.forall_mem_cons.mpr ⟨z_mk100, List.forall_mem_cons.mpr ⟨z_mk101, List.forall_mem_cons.mpr ⟨z_mk102, List.forall_mem_cons.mpr ⟨z_mk103, List.forall_mem_cons.mpr ⟨z_mk104, List.forall_mem_cons.mpr ⟨z_mk105, List.forall_mem_cons.mpr ⟨z_mk106, List.forall_mem_cons.mpr ⟨z_mk107, fun _ h => absurd h List.not_mem_nil⟩⟩⟩⟩⟩⟩⟩⟩⟩⟩⟩⟩
def z_mg9 : List z_MT := [z_m108, z_m109, z_m110, z_m111, z_m112, z_m113, z_m114, z_m115, z_m116, z_m117, z_m118, z_m119]
theorem z_mgk9 : ∀ e ∈ z_mg9, z_mok e := List.forall_mem_cons.mpr ⟨z_mk108, List.forall_mem_cons.mpr ⟨z_mk109, List.forall_mem_cons.mpr ⟨z_mk110, List.forall_mem_cons.mpr ⟨z_mk111, List.forall_mem_cons.mpr ⟨z_mk112, List.forall_mem_cons.mpr ⟨z_mk113, List.forall_mem_cons.mpr ⟨z_mk114, List.forall_mem_cons.mpr ⟨z_mk115, List.forall_mem_cons.mpr ⟨z_mk116, List.forall_mem_cons.mpr ⟨z_mk117, List.forall_mem_cons.mpr ⟨z_mk118, List.forall_mem_cons.mpr ⟨z_mk119, fun _ h => absurd h List.not_mem_nil⟩⟩⟩⟩⟩⟩⟩⟩⟩⟩⟩⟩
def z_mg10 : List z_MT := [z_m120, z_m121, z_m122, z_m123, z_m124, z_m125, z_m126, z_m127, z_m128, z_m129, z_m130, z_m131]
theorem z_mgk10 : ∀ e ∈ z_mg10, z_mok e := List.forall_mem_cons.mpr ⟨z_mk120, List.forall_mem_cons.mpr ⟨z_mk121, List.forall_mem_cons.mpr ⟨z_mk122, List.forall_mem_cons.mpr ⟨z_mk123, List.forall_mem_cons.mpr ⟨z_mk124, List.forall_mem_cons.mpr ⟨z_mk125, List.forall_mem_cons.mpr ⟨z_mk126, List.forall_mem_cons.mpr ⟨z_mk127, List.forall_mem_cons.mpr ⟨z_mk128, List.forall_mem_cons.mpr ⟨z_mk129, List.forall_mem_cons.mpr ⟨z_mk130, List.forall_mem_cons.mpr ⟨z_mk131, fun _ h => absurd h List.not_mem_nil⟩⟩⟩⟩⟩⟩⟩⟩⟩⟩⟩⟩
def z_mg11 : List z_MT := [z_m132, z_m133, z_m134, z_m135, z_m136, z_m137, z_m138, z_m139, z_m140, z_m141, z_m142, z_m143]
theorem z_mgk11 : ∀ e ∈ z_mg11, z_mok e := List.forall_mem_cons.mpr ⟨z_mk132, List.forall_mem_cons.mpr ⟨z_mk133, List.forall_mem_cons.mpr ⟨z_mk134, List.forall_mem_cons.mpr ⟨z_mk135, List.forall_mem_cons.mpr ⟨z_mk136, List.forall_mem_cons.mpr ⟨z_mk137, List.forall_mem_cons.mpr ⟨z_mk138, List.forall_mem_cons.mpr ⟨z_mk139, List.forall_mem_cons.mpr ⟨z_mk140, List.forall_mem_cons.mpr ⟨z_mk141, List.forall_mem_cons.mpr ⟨z_mk142, List.forall_mem_cons.mpr ⟨z_mk143, fun _ h => absurd h List.not_mem_nil⟩⟩⟩⟩⟩⟩⟩⟩⟩⟩⟩⟩
def z_mg12 : List z_MT := [z_m144, z_m145, z_m146, z_m147, z_m148, z_m149, z_m150, z_m151, z_m152, z_m153, z_m154, z_m155]
theorem z_mgk12 : ∀ e ∈ z_mg12, z_mok e := List.forall_mem_cons.mpr ⟨z_mk144, List.forall_mem_cons.mpr ⟨z_mk145, List.forall_mem_cons.mpr ⟨z_mk146, List.forall_mem_cons.mpr ⟨z_mk147, List.forall_mem_cons.mpr ⟨z_mk148, List.forall_mem_cons.mpr ⟨z_mk149, List.forall_mem_cons.mpr ⟨z_mk150, List.forall_mem_cons.mpr ⟨z_mk151, List.forall_mem_cons.mpr ⟨z_mk152, List.forall_mem_cons.mpr ⟨z_mk153, List.forall_mem_cons.mpr ⟨z_mk154, List.forall_mem_cons.mpr ⟨z_mk155, fun _ h => absurd h List.not_mem_nil⟩⟩⟩⟩⟩⟩⟩⟩⟩⟩⟩⟩
def z_mg13 : List z_MT := [z_m156, z_m157, z_m158, z_m159, z_m160, z_m161, z_m162, z_m163, z_m164, z_m165, z_m166, z_m167]
theorem z_mgk13 : ∀ e ∈ z_mg13, z_mok e := List.forall_mem_cons.mpr ⟨z_mk156, List.forall_mem_cons.mpr ⟨z_mk157, List.forall_mem_cons.mpr ⟨z_mk158, List.forall_mem_cons.mpr ⟨z_mk159, List.forall_mem_cons.mpr ⟨z_mk160, List.forall_mem_cons.mpr ⟨z_mk161, List.forall_mem_cons.mpr ⟨z_mk162, List.forall_mem_cons.mpr ⟨z_mk163, List.forall_mem_cons.mpr ⟨z_mk164, List.forall_mem_cons.mpr ⟨z_mk165, List.forall_mem_cons.mpr ⟨z_mk166, List.forall_mem_cons.mpr ⟨z_mk167, fun _ h => absurd h List.not_mem_nil⟩⟩⟩⟩⟩⟩⟩⟩⟩⟩⟩⟩
def z_mg14 : List z_MT := [z_m168, z_m169, z_m170, z_m171, z_m172, z_m173, z_m174, z_m175, z_m176, z_m177, z_m178, z_m179]
theorem z_mgk14 : ∀ e ∈ z_mg14, z_mok e := List.forall_mem_cons.mpr ⟨z_mk168, List.forall_mem_cons.mpr ⟨z_mk169, List.forall_mem_cons.mpr ⟨z_mk170, List.forall_mem_cons.mpr ⟨z_mk171, List.forall_mem_cons.mpr ⟨z_mk172, List.forall_mem_cons.mpr ⟨z_mk173, List.forall_mem_cons.mpr ⟨z_mk174, List.forall_mem_cons.mpr ⟨z_mk175, List.forall_mem_cons.mpr ⟨z_mk176, List.forall_mem_cons.mpr ⟨z_mk177, List.forall_mem_cons.mpr ⟨z_mk178, List.forall_mem_cons.mpr ⟨z_mk179, fun _ h => absurd h List.not_mem_nil⟩⟩⟩⟩⟩⟩⟩⟩⟩⟩⟩⟩
def z_mg15 : List z_MT := [z_m180, z_m181, z_m182, z_m183, z_m184, z_m185, z_m186, z_m187, z_m188, z_m189]
theorem z_mgk15 : ∀ e ∈ z_mg15, z_mok e := List.forall_mem_cons.mpr ⟨z_mk180, List.forall_mem_cons.mpr ⟨z_mk181, List.forall_mem_cons.mpr ⟨z_mk182, List.forall_mem_cons.mpr ⟨z_mk183, List.forall_mem_cons.mpr ⟨z_mk184, List.forall_mem_cons.mpr ⟨z_mk185, List.forall_mem_cons.mpr ⟨z_mk186, List.forall_mem_cons.mpr ⟨z_mk187, List.forall_mem_cons.mpr ⟨z_mk188, List.forall_mem_cons.mpr ⟨z_mk189, fun _ h => absurd h List.not_mem_nil⟩⟩⟩⟩⟩⟩⟩⟩⟩⟩
def z_mml : List z_MT := z_mg0 ++ (z_mg1 ++ (z_mg2 ++ (z_mg3 ++ (z_mg4 ++ (z_mg5 ++ (z_mg6 ++ (z_mg7 ++ (z_mg8 ++ (z_mg9 ++ (z_mg10 ++ (z_mg11 ++ (z_mg12 ++ (z_mg13 ++ (z_mg14 ++ (z_mg15)))))))))))))))
theorem z_mml_ok : ∀ e ∈ z_mml, z_mok e := List.forall_mem_append.mpr ⟨z_mgk0, List.forall_mem_append.mpr ⟨z_mgk1, List.forall_mem_append.mpr ⟨z_mgk2, List.forall_mem_append.mpr ⟨z_mgk3, List.forall_mem_append.mpr ⟨z_mgk4, List.forall_mem_append.mpr ⟨z_mgk5, List.forall_mem_append.mpr ⟨z_mgk6, List.forall_mem_append.mpr ⟨z_mgk7, List.forall_mem_append.mpr ⟨z_mgk8, List.forall_mem_append.mpr ⟨z_mgk9, List.forall_mem_append.mpr ⟨z_mgk10, List.forall_mem_append.mpr ⟨z_mgk11, List.forall_mem_append.mpr ⟨z_mgk12, List.forall_mem_append.mpr ⟨z_mgk13, List.forall_mem_append.mpr ⟨z_mgk14, z_mgk15⟩⟩⟩⟩⟩⟩⟩⟩⟩⟩⟩⟩⟩⟩⟩
def z_mm : Nat → Option z_MT
  | 0 => some z_m0
  | 1 => some z_m1
  | 2 => some z_m2
  | 3 => some z_m3
  | 4 => some z_m4
  | 5 => some z_m5
  | 6 => some z_m6
  | 7 => some z_m7
  | 8 => some z_m8
  | 9 => some z_m9
  | 10 => some z_m10
  | 11 => some z_m11
  | 12 => some z_m12
  | 13 => some z_m13
  | 14 => some z_m14
  | 15 => some z_m15
  | 16 => some z_m16
  | 17 => some z_m17
  | 18 => some z_m18
  | 19 => some z_m19
  | 20 => some z_m20
  | 21 => some z_m21
  | 22 => some z_m22
  | 23 => some z_m23
  | 24 => some z_m24
  | 25 => some z_m25
  | 26 => some z_m26
  | 27 => some z_m27
  | 28 => some z_m28
  | 29 => some z_m29
  | 30 => some z_m30
  | 31 => some z_m31
  | 32 => some z_m32
  | 33 => some z_m33
  | 34 => some z_m34
  | 35 => some z_m35
  | 36 => some z_m36
  | 37 => some z_m37
  | 38 => some z_m38
  | 39 => some z_m39
  | 40 => some z_m40
  | 41 => some z_m41
  | 42 => some z_m42
  | 43 => some z_m43
  | 44 => some z_m44
  | 45 => some z_m45
  | 46 => some z_m46
  | 47 => some z_m47
  | 48 => some z_m48
  | 49 => some z_m49
  | 50 => some z_m50
  | 51 => some z_m51
  | 52 => some z_m52
  | 53 => some z_m53
  | 54 => some z_m54
  | 55 => some z_m55
  | 56 => some z_m56
  | 57 => some z_m57
  | 58 => some z_m58
  | 59 => some z_m59
  | 60 => some z_m60
  | 61 => some z_m61
  | 62 => some z_m62
  | 63 => some z_m63
  | 64 => some z_m64
  | 65 => some z_m65
  | 66 => some z_m66
  | 67 => some z_m67
  | 68 => some z_m68
  | 69 => some z_m69
  | 70 => some z_m70
  | 71 => some z_m71
  | 72 => some z_m72
  | 73 => some z_m73
  | 74 => some z_m74
  | 75 => some z_m75
  | 76 => some z_m76
  | 77 => some z_m77
  | 78 => some z_m78
  | 79 => some z_m79
  | 80 => some z_m80
  | 81 => some z_m81
  | 82 => some z_m82
  | 83 => some z_m83
  | 84 => some z_m84
  | 85 => some z_m85
  | 86 => some z_m86
  | 87 => some z_m87
  | 88 => some z_m88
  | 89 => some z_m89
  | 90 => some z_m90
  | 91 => some z_m91
  | 92 => some z_m92
  | 93 => some z_m93
  | 94 => some z_m94
  | 95 => some z_m95
  | 96 => some z_m96
  | 97 => some z_m97
  | 98 => some z_m98
  | 99 => some z_m99
  | 100 => some z_m100
  | 101 => some z_m101
  | 102 => some z_m102
  | 103 => some z_m103
  | 104 => some z_m104
  | 105 => some z_m105
  | 106 => some z_m106
  | 107 => some z_m107
  | 108 => some z_m108
  | 109 => some z_m109
  | 110 => some z_m110
  | 111 => some z_m111
  | 112 => some z_m112
  | 113 => some z_m113
  | 114 => some z_m114
  | 115 => some z_m115
  | 116 => some z_m116
  | 117 => some z_m117
  | 118 => some z_m118
  | 119 => some z_m119
  | 120 => some z_m120
  | 121 => some z_m121
  | 122 => some z_m122
  | 123 => some z_m123
  | 124 => some z_m124
  | 125 => some z_m125
  | 126 => some z_m126
  | 127 => some z_m127
  | 128 => some z_m128
  | 129 => some z_m129
  | 130 => some z_m130
  | 131 => some z_m131
  | 132 => some z_m132
  | 133 => some z_m133
  | 134 => some z_m134
  | 135 => some z_m135
  | 136 => some z_m136
  | 137 => some z_m137
  | 138 => some z_m138
  | 139 => some z_m139
  | 140 => some z_m140
  | 141 => some z_m141
  | 142 => some z_m142
  | 143 => some z_m143
  | 144 => some z_m144
  | 145 => some z_m145
  | 146 => some z_m146
  | 147 => some z_m147
  | 148 => some z_m148
  | 149 => some z_m149
  | 150 => some z_m150
  | 151 => some z_m151
  | 152 => some z_m152
  | 153 => some z_m153
  | 154 => some z_m154
  | 155 => some z_m155
  | 156 => some z_m156
  | 157 => some z_m157
  | 158 => some z_m158
  | 159 => some z_m159
  | 160 => some z_m160
  | 161 => some z_m161
  | 162 => some z_m162
  | 163 => some z_m163
  | 164 => some z_m164
  | 165 => some z_m165
  | 166 => some z_m166
  | 167 => some z_m167
  | 168 => some z_m168
  | 169 => some z_m169
  | 170 => some z_m170
  | 171 => some z_m171
  | 172 => some z_m172
  | 173 => some z_m173
  | 174 => some z_m174
  | 175 => some z_m175
  | 176 => some z_m176
  | 177 => some z_m177
  | 178 => some z_m178
  | 179 => some z_m179
  | 180 => some z_m180
  | 181 => some z_m181
  | 182 => some z_m182
  | 183 => some z_m183
  | 184 => some z_m184
  | 185 => some z_m185
  | 186 => some z_m186
  | 187 => some z_m187
  | 188 => some z_m188
  | 189 => some z_m189
  | _ => none
theorem z_mm_ok {j : Nat} {e : z_MT} (h : z_mm j = some e) : z_mok e := by
  match j, h with
  | 0, h => cases h; exact z_mk0
  | 1, h => cases h; exact z_mk1
  | 2, h => cases h; exact z_mk2
  | 3, h => cases h; exact z_mk3
  | 4, h => cases h; exact z_mk4
  | 5, h => cases h; exact z_mk5
  | 6, h => cases h; exact z_mk6
  | 7, h => cases h; exact z_mk7
  | 8, h => cases h; exact z_mk8
  | 9, h => cases h; exact z_mk9
  | 10, h => cases h; exact z_mk10
  | 11, h => cases h; exact z_mk11
  | 12, h => cases h; exact z_mk12
  | 13, h => cases h; exact z_mk13
  | 14, h => cases h; exact z_mk14
  | 15, h => cases h; exact z_mk15
  | 16, h => cases h; exact z_mk16
  | 17, h => cases h; exact z_mk17
  | 18, h => cases h; exact z_mk18
  | 19, h => cases h; exact z_mk19
  | 20, h => cases h; exact z_mk20
  | 21, h => cases h; exact z_mk21
  | 22, h => cases h; exact z_mk22
  | 23, h => cases h; exact z_mk23
  | 24, h => cases h; exact z_mk24
  | 25, h => cases h; exact z_mk25
  | 26, h => cases h; exact z_mk26
  | 27, h => cases h; exact z_mk27
  | 28, h => cases h; exact z_mk28
  | 29, h => cases h; exact z_mk29
  | 30, h => cases h; exact z_mk30
  | 31, h => cases h; exact z_mk31
  | 32, h => cases h; exact z_mk32
  | 33, h => cases h; exact z_mk33
  | 34, h => cases h; exact z_mk34
  | 35, h => cases h; exact z_mk35
  | 36, h => cases h; exact z_mk36
  | 37, h => cases h; exact z_mk37
  | 38, h => cases h; exact z_mk38
  | 39, h => cases h; exact z_mk39
  | 40, h => cases h; exact z_mk40
  | 41, h => cases h; exact z_mk41
  | 42, h => cases h; exact z_mk42
  | 43, h => cases h; exact z_mk43
  | 44, h => cases h; exact z_mk44
  | 45, h => cases h; exact z_mk45
  | 46, h => cases h; exact z_mk46
  | 47, h => cases h; exact z_mk47
  | 48, h => cases h; exact z_mk48
  | 49, h => cases h; exact z_mk49
  | 50, h => cases h; exact z_mk50
  | 51, h => cases h; exact z_mk51
  | 52, h => cases h; exact z_mk52
  | 53, h => cases h; exact z_mk53
  | 54, h => cases h; exact z_mk54
  | 55, h => cases h; exact z_mk55
  | 56, h => cases h; exact z_mk56
  | 57, h => cases h; exact z_mk57
  | 58, h => cases h; exact z_mk58
  | 59, h => cases h; exact z_mk59
  | 60, h => cases h; exact z_mk60
  | 61, h => cases h; exact z_mk61
  | 62, h => cases h; exact z_mk62
  | 63, h => cases h; exact z_mk63
  | 64, h => cases h; exact z_mk64
  | 65, h => cases h; exact z_mk65
  | 66, h => cases h; exact z_mk66
  | 67, h => cases h; exact z_mk67
  | 68, h => cases h; exact z_mk68
  | 69, h => cases h; exact z_mk69
  | 70, h => cases h; exact z_mk70
  | 71, h => cases h; exact z_mk71
  | 72, h => cases h; exact z_mk72
  | 73, h => cases h; exact z_mk73
  | 74, h => cases h; exact z_mk74
  | 75, h => cases h; exact z_mk75
  | 76, h => cases h; exact z_mk76
  | 77, h => cases h; exact z_mk77
  | 78, h => cases h; exact z_mk78
  | 79, h => cases h; exact z_mk79
  | 80, h => cases h; exact z_mk80
  | 81, h => cases h; exact z_mk81
  | 82, h => cases h; exact z_mk82
  | 83, h => cases h; exact z_mk83
  | 84, h => cases h; exact z_mk84
  | 85, h => cases h; exact z_mk85
  | 86, h => cases h; exact z_mk86
  | 87, h => cases h; exact z_mk87
  | 88, h => cases h; exact z_mk88
  | 89, h => cases h; exact z_mk89
  | 90, h => cases h; exact z_mk90
  | 91, h => cases h; exact z_mk91
  | 92, h => cases h; exact z_mk92
  | 93, h => cases h; exact z_mk93
  | 94, h => cases h; exact z_mk94
  | 95, h => cases h; exact z_mk95
  | 96, h => cases h; exact z_mk96
  | 97, h => cases h; exact z_mk97
  | 98, h => cases h; exact z_mk98
  | 99, h => cases h; exact z_mk99
  | 100, h => cases h; exact z_mk100
  | 101, h => cases h; exact z_mk101
  | 102, h => cases h; exact z_mk102
  | 103, h => cases h; exact z_mk103
  | 104, h => cases h; exact z_mk104
  | 105, h => cases h; exact z_mk105
  | 106, h => cases h; exact z_mk106
  | 107, h => cases h; exact z_mk107
  | 108, h => cases h; exact z_mk108
  | 109, h => cases h; exact z_mk109
  | 110, h => cases h; exact z_mk110
  | 111, h => cases h; exact z_mk111
  | 112, h => cases h; exact z_mk112
  | 113, h => cases h; exact z_mk113
  | 114, h => cases h; exact z_mk114
  | 115, h => cases h; exact z_mk115
  | 116, h => cases h; exact z_mk116
  | 117, h => cases h; exact z_mk117
  | 118, h => cases h; exact z_mk118
  | 119, h => cases h; exact z_mk119
  | 120, h => cases h; exact z_mk120
  | 121, h => cases h; exact z_mk121
  | 122, h => cases h; exact z_mk122
  | 123, h => cases h; exact z_mk123
  | 124, h => cases h; exact z_mk124
  | 125, h => cases h; exact z_mk125
  | 126, h => cases h; exact z_mk126
  | 127, h => cases h; exact z_mk127
  | 128, h => cases h; exact z_mk128
  | 129, h => cases h; exact z_mk129
  | 130, h => cases h; exact z_mk130
  | 131, h => cases h; exact z_mk131
  | 132, h => cases h; exact z_mk132
  | 133, h => cases h; exact z_mk133
  | 134, h => cases h; exact z_mk134
  | 135, h => cases h; exact z_mk135
  | 136, h => cases h; exact z_mk136
  | 137, h => cases h; exact z_mk137
  | 138, h => cases h; exact z_mk138
  | 139, h => cases h; exact z_mk139
  | 140, h => cases h; exact z_mk140
  | 141, h => cases h; exact z_mk141
  | 142, h => cases h; exact z_mk142
  | 143, h => cases h; exact z_mk143
  | 144, h => cases h; exact z_mk144
  | 145, h => cases h; exact z_mk145
  | 146, h => cases h; exact z_mk146
  | 147, h => cases h; exact z_mk147
  | 148, h => cases h; exact z_mk148
  | 149, h => cases h; exact z_mk149
  | 150, h => cases h; exact z_mk150
  | 151, h => cases h; exact z_mk151
  | 152, h => cases h; exact z_mk152
  | 153, h => cases h; exact z_mk153
  | 154, h => cases h; exact z_mk154
  | 155, h => cases h; exact z_mk155
  | 156, h => cases h; exact z_mk156
  | 157, h => cases h; exact z_mk157
  | 158, h => cases h; exact z_mk158
  | 159, h => cases h; exact z_mk159
  | 160, h => cases h; exact z_mk160
  | 161, h => cases h; exact z_mk161
  | 162, h => cases h; exact z_mk162
  | 163, h => cases h; exact z_mk163
  | 164, h => cases h; exact z_mk164
  | 165, h => cases h; exact z_mk165
  | 166, h => cases h; exact z_mk166
  | 167, h => cases h; exact z_mk167
  | 168, h => cases h; exact z_mk168
  | 169, h => cases h; exact z_mk169
  | 170, h => cases h; exact z_mk170
  | 171, h => cases h; exact z_mk171
  | 172, h => cases h; exact z_mk172
  | 173, h => cases h; exact z_mk173
  | 174, h => cases h; exact z_mk174
  | 175, h => cases h; exact z_mk175
  | 176, h => cases h; exact z_mk176
  | 177, h => cases h; exact z_mk177
  | 178, h => cases h; exact z_mk178
  | 179, h => cases h; exact z_mk179
  | 180, h => cases h; exact z_mk180
  | 181, h => cases h; exact z_mk181
  | 182, h => cases h; exact z_mk182
  | 183, h => cases h; exact z_mk183
  | 184, h => cases h; exact z_mk184
  | 185, h => cases h; exact z_mk185
  | 186, h => cases h; exact z_mk186
  | 187, h => cases h; exact z_mk187
  | 188, h => cases h; exact z_mk188
  | 189, h => cases h; exact z_mk189
  | n + 190, h => cases h
def z_mrl : List (Nat × Nat × Nat × Nat) := [(9, 13, 63, 345), (7, 77, 97, 349), (7, 81, 50, 353), (7, 85, 51, 357), (6, 20, 50, 361), (9, 18, 64, 362), (7, 93, 99, 366), (7, 292, 53, 370), (6, 27, 54, 374), (6, 30, 56, 378), (6, 37, 55, 382), (6, 41, 188, 390), (6, 46, 187, 394), (6, 49, 189, 404), (6, 53, 57, 442), (6, 70, 60, 446), (6, 56, 58, 449), (6, 74, 59, 453), (6, 78, 61, 456), (6, 81, 62, 459), (7, 257, 0, 462), (0, 37, 900, 466), (7, 298, 54, 469), (7, 307, 16, 470), (0, 74, 23, 474), (0, 117, 901, 478), (0, 77, 24, 481), (0, 80, 25, 485), (0, 84, 26, 489), (0, 43, 1, 493), (0, 120, 2, 497), (0, 47, 5, 501), (0, 87, 27, 505), (7, 132, 42, 509), (7, 97, 52, 513), (9, 23, 65, 518), (7, 100, 1, 522), (9, 28, 66, 523), (7, 113, 98, 527), (7, 116, 3, 532), (9, 32, 67, 536), (7, 122, 2, 540), (7, 125, 5, 541), (9, 36, 68, 542), (9, 40, 69, 546), (7, 135, 11, 550), (0, 58, 12, 554), (0, 54, 19, 558), (0, 51, 3, 562), (0, 61, 20, 563), (0, 106, 21, 566), (0, 109, 22, 569), (0, 112, 186, 572), (9, 44, 70, 575), (7, 138, 101, 579), (9, 48, 71, 582), (7, 141, 43, 586), (4, 37, 7, 590), (4, 44, 8, 594), (4, 48, 13, 598), (0, 65, 9, 602), (4, 58, 10, 606), (4, 61, 44, 610), (4, 65, 45, 614), (4, 69, 901, 618), (4, 74, 900, 619), (9, 52, 72, 620), (9, 56, 73, 624), (9, 60, 74, 628), (7, 154, 4, 632), (7, 157, 9, 636), (9, 64, 75, 637), (7, 160, 12, 641), (7, 163, 901, 642), (9, 68, 76, 643), (7, 168, 39, 647), (3, 36, 3, 651), (3, 43, 13, 652), (3, 54, 10, 654), (3, 58, 40, 655), (3, 62, 41, 659), (3, 75, 903, 663), (3, 78, 900, 666), (3, 66, 901, 667), (3, 72, 902, 668), (9, 72, 77, 671), (9, 76, 78, 675), (9, 80, 79, 679), (7, 179, 102, 683), (7, 182, 29, 686), (7, 183, 30, 690), (1, 41, 29, 694), (9, 85, 80, 695), (7, 187, 31, 699), (1, 54, 34, 703), (1, 65, 9, 707), (1, 59, 10, 708), (9, 89, 81, 710), (7, 197, 32, 714), (1, 69, 33, 719), (1, 76, 902, 723), (9, 93, 82, 724), (7, 201, 14, 728), (0, 68, 902, 732), (9, 97, 83, 733), (7, 204, 46, 737), (5, 18, 11, 741), (5, 24, 14, 742), (5, 27, 902, 743), (7, 207, 47, 744), (5, 36, 903, 748), (7, 210, 48, 749), (9, 101, 84, 753), (7, 219, 103, 757), (7, 222, 49, 760), (5, 39, 15, 764), (9, 105, 85, 768), (7, 225, 104, 772), (9, 110, 86, 775), (7, 229, 7, 779), (7, 232, 8, 780), (9, 114, 87, 781), (7, 235, 105, 785), (7, 238, 106, 788), (7, 241, 109, 791), (9, 119, 88, 794), (7, 245, 107, 798), (7, 314, 108, 801), (9, 123, 89, 804), (7, 249, 36, 808), (7, 250, 37, 812), (2, 29, 36, 816), (9, 127, 90, 817), (7, 254, 38, 821), (9, 131, 91, 826), (7, 260, 17, 830), (0, 92, 7, 836), (0, 96, 18, 837), (0, 99, 8, 841), (0, 102, 4, 842), (9, 135, 92, 843), (9, 139, 93, 847), (7, 266, 100, 851), (7, 311, 903, 855), (9, 143, 94, 856), (7, 269, 28, 860), (1, 35, 900, 864), (7, 272, 35, 865), (2, 23, 900, 869), (9, 147, 95, 870), (9, 151, 96, 874), (7, 282, 6, 878), (9, 17, 120, 958), (8, 60, 112, 962), (8, 68, 110, 965), (9, 22, 131, 969), (8, 112, 130, 973), (8, 102, 127, 977), (8, 75, 121, 981), (8, 82, 123, 985), (8, 85, 122, 989), (8, 89, 125, 993), (8, 79, 124, 997), (8, 93, 126, 1000), (8, 105, 114, 1004), (8, 109, 129, 1007), (8, 96, 128, 1011), (8, 99, 113, 1015), (9, 27, 132, 1018), (8, 115, 116, 1022), (8, 53, 111, 1026), (8, 57, 117, 1029), (9, 31, 133, 1033), (8, 119, 118, 1038), (9, 35, 135, 1042), (8, 122, 119, 1046), (8, 125, 134, 1050), (9, 39, 136, 1054), (9, 43, 142, 1058), (8, 140, 141, 1062), (8, 134, 140, 1066), (8, 137, 139, 1070), (8, 128, 137, 1074), (8, 131, 138, 1078), (9, 47, 144, 1082), (8, 143, 143, 1086), (9, 51, 147, 1089), (8, 156, 146, 1093), (8, 152, 145, 1097), (9, 55, 148, 1101), (9, 59, 149, 1105), (9, 63, 150, 1109), (9, 67, 151, 1113), (9, 71, 155, 1117), (8, 172, 154, 1121), (8, 168, 153, 1125), (8, 159, 152, 1129), (9, 75, 156, 1133), (9, 79, 157, 1137), (9, 84, 158, 1141), (9, 88, 161, 1145), (8, 180, 160, 1149), (8, 176, 159, 1153), (9, 92, 163, 1157), (8, 183, 162, 1161), (9, 96, 165, 1165), (8, 186, 164, 1169), (9, 100, 168, 1173), (8, 195, 167, 1177), (8, 198, 166, 1181), (9, 104, 170, 1185), (8, 201, 169, 1189), (9, 109, 171, 1193), (8, 49, 115, 1197), (9, 113, 172, 1200), (9, 118, 176, 1204), (8, 207, 173, 1208), (8, 210, 175, 1211), (8, 204, 174, 1214), (9, 122, 177, 1217), (9, 126, 178, 1221), (9, 130, 179, 1225), (9, 134, 180, 1229), (9, 138, 181, 1236), (9, 142, 182, 1240), (9, 146, 183, 1244), (9, 150, 184, 1248), (9, 154, 185, 1252), (1, 73, 101, 9999), (2, 33, 109, 9999)]
def z_bi : Nat → Option MethodName
  | 900 => some arraycopyName
  | 901 => some Lib.Math.abs.name
  | 902 => some Lib.Math.max.name
  | 903 => some Lib.Math.min.name
  | _ => none
def z_lnk (c i j : Nat) : Prop := (∃ y, z_bi j = some y ∧ Jvm.Cond.methodLink (z_own c) i y ∈ ALL) ∨ ∃ e, z_mm j = some e ∧ (Jvm.Cond.methodLink (z_own c) i e.1 ∈ ALL ∨ ((z_own c, i, e.1, RX7) ∈ z_nst ∧ e.2.2.2.2.1 = 1))
def z_mchk (e : Nat × Nat × Nat × Nat) : Bool := match z_mm e.2.2.1 with
  | none => (match z_bi e.2.2.1 with
    | none => false
    | some y => decide (lw_tbl[e.2.2.2]? = some (Jvm.Cond.methodLink (z_own e.1) e.2.1 y)))
  | some q => decide (lw_tbl[e.2.2.2]? = some (Jvm.Cond.methodLink (z_own e.1) e.2.1 q.1)) || (decide ((z_own e.1, e.2.1, q.1, RX7) ∈ z_nst) && decide (q.2.2.2.2.1 = 1))
set_option maxRecDepth 20000 in
theorem z_mrl_ok : z_mrl.all z_mchk = true := by decide +kernel
def z_mrf : List (Nat × Nat × Nat × Nat) → Nat → Nat → Option Nat
  | [], _, _ => none
  | e :: t, c, i => bif Nat.beq e.1 c && Nat.beq e.2.1 i then some e.2.2.1 else z_mrf t c i
def z_mr (c i : Nat) : Option Nat := z_mrf z_mrl c i
theorem z_mrf_mem {c i j : Nat} : ∀ {l : List (Nat × Nat × Nat × Nat)}, z_mrf l c i = some j → ∃ p, (c, i, j, p) ∈ l
  | [], h => by cases h
  | e :: t, h => by
    unfold z_mrf at h
    cases hb : (Nat.beq e.1 c && Nat.beq e.2.1 i) with
    | true =>
      rw [hb] at h
      cases h
      obtain ⟨h1, h2⟩ := Bool.and_eq_true_iff.mp hb
      rw [← Nat.eq_of_beq_eq_true h1, ← Nat.eq_of_beq_eq_true h2]
      exact ⟨e.2.2.2, List.mem_cons_self⟩
    | false =>
      rw [hb] at h
      obtain ⟨p, hp⟩ := z_mrf_mem h
      exact ⟨p, List.mem_cons_of_mem _ hp⟩
theorem z_mr_ok {c i j : Nat} (h : z_mr c i = some j) : z_lnk c i j := by
  obtain ⟨p, hp⟩ := z_mrf_mem h
  have hc := List.all_eq_true.mp z_mrl_ok _ hp
  unfold z_mchk at hc
  dsimp only at hc
  cases hv : z_mm j with
  | none =>
    rw [hv] at hc
    dsimp only at hc
    cases hb : z_bi j with
    | none => rw [hb] at hc; cases hc
    | some y =>
      rw [hb] at hc
      exact Or.inl ⟨y, hb, mem_ALL (of_decide_eq_true hc) rfl⟩
  | some q =>
    rw [hv] at hc
    refine Or.inr ⟨q, hv, ?_⟩
    rcases Bool.or_eq_true_iff.mp hc with h1 | h1
    · exact Or.inl (mem_ALL (of_decide_eq_true h1) rfl)
    · obtain ⟨h1, h2⟩ := Bool.and_eq_true_iff.mp h1
      exact Or.inr ⟨of_decide_eq_true h1, of_decide_eq_true h2⟩
theorem z_cp1 : Jvm.Cond.native arraycopyName ∈ ALL := mem_ALL (i := 468) rfl rfl
theorem z_cp2 : Jvm.Cond.static arraycopyName ∈ ALL := mem_ALL (i := 467) rfl rfl
theorem z_cp3 : Jvm.Cond.initialized "java/lang/System" ∈ ALL := mem_ALL (i := 65) rfl rfl
set_option maxRecDepth 20000 in
theorem z_abs1 : Jvm.Cond.code Lib.Math.abs.name Lib.Math.abs.code 1 (some .int) ∈ ALL := mem_ALL (i := 480) (by decide +kernel) rfl
set_option maxRecDepth 20000 in
theorem z_abs2 : Jvm.Cond.static Lib.Math.abs.name ∈ ALL := mem_ALL (i := 479) rfl rfl
set_option maxRecDepth 20000 in
theorem z_max1 : Jvm.Cond.code Lib.Math.max.name Lib.Math.max.code 2 (some .int) ∈ ALL := mem_ALL (i := 670) (by decide +kernel) rfl
set_option maxRecDepth 20000 in
theorem z_max2 : Jvm.Cond.static Lib.Math.max.name ∈ ALL := mem_ALL (i := 669) rfl rfl
set_option maxRecDepth 20000 in
theorem z_min1 : Jvm.Cond.code Lib.Math.min.name Lib.Math.min.code 2 (some .int) ∈ ALL := mem_ALL (i := 665) (by decide +kernel) rfl
set_option maxRecDepth 20000 in
theorem z_min2 : Jvm.Cond.static Lib.Math.min.name ∈ ALL := mem_ALL (i := 664) rfl rfl
theorem z_math3 : Jvm.Cond.initialized "java/lang/Math" ∈ ALL := mem_ALL (i := 66) rfl rfl
def z_krl : List (Nat × Nat × Int32 × Nat) := [(7, 291, 1000000000, 531), (3, 50, 2147483647, 653), (1, 58, 2147483647, 718), (0, 90, 1664525, 834), (0, 91, 1013904223, 835), (0, 105, 2147483647, 840), (8, 118, 1000000000, 1037), (8, 213, 1664525, 1233), (8, 214, 1013904223, 1234), (8, 215, 2147483647, 1235)]
set_option maxRecDepth 20000 in
theorem z_krl_ok : z_krl.all (fun e => decide (lw_tbl[e.2.2.2]? = some (Jvm.Cond.constant (z_own e.1) e.2.1 e.2.2.1))) = true := by decide +kernel
def z_krf : List (Nat × Nat × Int32 × Nat) → Nat → Nat → Option Int32
  | [], _, _ => none
  | e :: t, c, i => bif Nat.beq e.1 c && Nat.beq e.2.1 i then some e.2.2.1 else z_krf t c i
theorem z_krf_mem {c i : Nat} {v : Int32} : ∀ {l : List (Nat × Nat × Int32 × Nat)}, z_krf l c i = some v → ∃ p, (c, i, v, p) ∈ l
  | [], h => by cases h
  | e :: t, h => by
    unfold z_krf at h
    cases hb : (Nat.beq e.1 c && Nat.beq e.2.1 i) with
    | true =>
      rw [hb] at h
      cases h
      obtain ⟨h1, h2⟩ := Bool.and_eq_true_iff.mp hb
      rw [← Nat.eq_of_beq_eq_true h1, ← Nat.eq_of_beq_eq_true h2]
      exact ⟨e.2.2.2, List.mem_cons_self⟩
    | false =>
      rw [hb] at h
      obtain ⟨p, hp⟩ := z_krf_mem h
      exact ⟨p, List.mem_cons_of_mem _ hp⟩
theorem z_kr_ok {c i : Nat} {v : Int32} (h : z_krf z_krl c i = some v) : Jvm.Cond.constant (z_own c) i v ∈ ALL := by
  obtain ⟨p, hp⟩ := z_krf_mem h
  exact mem_ALL (of_decide_eq_true (List.all_eq_true.mp z_krl_ok _ hp)) rfl
def z_sr (c i : Nat) : Option Nat := bif Nat.beq c 6 then (match i with | 60 => some 0 | 62 => some 1 | 64 => some 2 | 66 => some 3 | 68 => some 4 | _ => none) else none
