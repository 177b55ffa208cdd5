/-! THE LAW'S START: classes, texts, the first state -/
/-- the first state: lengths 6, notches 2, all else 0 -/
def S0 : z_S := (fun k => bif Nat.beq k 0 || Nat.beq k 4 || Nat.beq k 8 then 6 else bif Nat.beq k 2 || Nat.beq k 6 || Nat.beq k 10 then 2 else 0, fun p => bif Nat.beq p 61 then upd (upd (fun _ => 0) ((0 : Int32).toNatClampNeg) 6) ((2 : Int32).toNatClampNeg) 2 else fun _ => 0)
theorem S0_Rl : z_Rl (S0.2 61) (dN S0) := ⟨by decide +kernel, by decide +kernel, by decide +kernel, by decide +kernel⟩
theorem Inv_S0 : Inv S0 := by
  refine ⟨0, 0, 0, 0, 0, ⟨⟨by decide, by decide +kernel⟩, ⟨by decide, by decide +kernel⟩, ⟨by decide, by decide +kernel⟩, ⟨by decide +kernel, by decide +kernel⟩, ⟨by decide +kernel, by decide +kernel⟩, ⟨by decide +kernel, by decide +kernel⟩, ?_, ?_, ?_, ?_⟩, S0_Rl, Or.inl ⟨by decide +kernel, by decide +kernel⟩, ⟨by decide, by decide +kernel, by decide +kernel, ?_⟩, ⟨by decide, by decide +kernel, by decide +kernel, ?_⟩, ?_, Or.inl (by decide +kernel)⟩
  · intro k hk; exact absurd hk (Nat.not_lt_zero k)
  · intro k hk; exact absurd hk (Nat.not_lt_zero k)
  · intro i j hi; exact absurd hi (Nat.not_lt_zero i)
  · intro i hi; exact absurd hi (Nat.not_lt_zero i)
  · intro i hi; exact absurd hi (Nat.not_lt_zero i)
  · intro i hi; exact absurd hi (Nat.not_lt_zero i)
  · intro k hk; rfl
set_option maxRecDepth 20000 in
theorem k_inst {k : Nat} {q : vw_C} (h : vwCl[k]? = some q) : Jvm.Cond.instantiable q.1 q.2.2 ∈ ALL := by
  match k, h with
  | 0, h => cases h; exact mem_ALL (i := 104) rfl rfl
  | 1, h => cases h; exact mem_ALL (i := 146) rfl rfl
  | 2, h => cases h; exact mem_ALL (i := 188) rfl rfl
  | 3, h => cases h; exact mem_ALL (i := 247) rfl rfl
  | 4, h => cases h; exact mem_ALL (i := 208) rfl rfl
  | 5, h => cases h; exact mem_ALL (i := 282) rfl rfl
  | 6, h => cases h; exact mem_ALL (i := 77) rfl rfl
  | 7, h => cases h; exact mem_ALL (i := 69) rfl rfl
  | 8, h => cases h; exact mem_ALL (i := 883) rfl rfl
  | n + 9, h => cases h
theorem k_known {s : State} {b : Nat} (htb : ∀ w ∈ lw_tbl, w.before #[Value.ref b] s = true) : ∃ (D : va_G) (ci : z_I), va_K D vwCl (k_ty ci) s := by
  have hts : ∀ w ∈ ALL, w.before #[Value.ref b] s = true := fun w hw => htb w (List.mem_filter.mp hw).1
  have h1 : ∀ k : Nat, ∃ q : ClassId × (Nat → Nat), ∀ r : vw_C, vwCl[k]? = some r → u_Kn s r.1 r.2.1 r.2.2 q.1 q.2 := by
    intro k
    cases hq : vwCl[k]? with
    | none => exact ⟨(0, fun _ => 0), fun r hr => by cases hr⟩
    | some q =>
      obtain ⟨C, T, N⟩ := q
      obtain ⟨c, i, hk⟩ := u_known (C := C) (T := T) (N := N) hts (z_K_of hq).2.1 (hts _ (k_inst hq))
      exact ⟨(c, i), fun r hr => by cases hr; exact hk⟩
  obtain ⟨f, hf⟩ := Classical.axiomOfChoice h1
  obtain ⟨cI, kI, mI, i1, i2, i3⟩ := Cond.arrayClass_spec (hts _ k_aI)
  obtain ⟨cZ, kZ, mZ, z1, z2, z3⟩ := Cond.arrayClass_spec (hts _ k_aZ)
  obtain ⟨mA, cA, kA, -, -, a2, a3, a4⟩ := arrayOverA_spec (htb (.arrayOver (.array .int)) (List.mem_of_getElem? (i := 214) rfl))
  refine ⟨(fun k => (f k).1, fun k => (f k).2), (cI, cZ, cA), fun k q hq => hf k q hq, fun k q hq => ?_⟩
  match k, hq with
  | 0, hq => cases hq; exact ⟨fun n z => ⟨fun k h => (by cases h), kI, i2, mI, i3⟩, i1⟩
  | 1, hq => cases hq; exact ⟨fun n z => ⟨fun k h => (by cases h), kZ, z2, mZ, z3⟩, z1⟩
  | 2, hq => cases hq; exact ⟨fun n z => ⟨fun k h => (by cases h), kA, a2, mA, a3⟩, a4⟩
  | k + 3, hq => cases hq
def k_tm (i : Nat) : Term := .string RX6 (z_ix i)
set_option maxRecDepth 20000 in
/-- the texts, the statics, the nest mates, at the start -/
theorem k_lits {s : State} {b : Nat} {A : Nat → Prop} (hts : ∀ w ∈ lw_tbl, w.before #[Value.ref b] s = true) (hgv : (Jvm.Cond.and given_1 narrow_1).before #[Value.ref b] s = true) (hA : ∀ a : Nat, a < s.heap.size → ¬ A a) :
    ∃ (adK adV : Nat → Nat) (fm : Nat), vk_S 5 z_len z_byt adK adV A s s.heap ∧ (∀ i, i < 5 → vk_R RX6 (z_ix i) (z_tx i) (adK i) s) ∧ va_Z "java/lang/String" "COMPACT_STRINGS" "Z" (.int 1) A s s.heap ∧ (va_Z "jdk/internal/util/Preconditions" "SIOOBE_FORMATTER" "Ljava/util/function/BiFunction;" .null A s s.heap ∨ va_Z "jdk/internal/util/Preconditions" "SIOOBE_FORMATTER" "Ljava/util/function/BiFunction;" (.ref fm) A s s.heap) ∧ (∀ q ∈ z_nst, va_Nw (.methodLinkNest q.1 q.2.1 q.2.2.1 q.2.2.2) s) ∧ k_nst s := by
  have hs := flat_of_before _ hgv
  have e1 : ∀ i : Nat, i < 5 → (Cond.exactly (k_tm i) "java/lang/String").before #[Value.ref b] s = true := fun i hi => by
    match i, hi with
    | 0, _ => exact hs _ (by decide +kernel)
    | 1, _ => exact hs _ (by decide +kernel)
    | 2, _ => exact hs _ (by decide +kernel)
    | 3, _ => exact hs _ (by decide +kernel)
    | 4, _ => exact hs _ (by decide +kernel)
    | n + 5, h => exact absurd h (by omega)
  have e2 : ∀ i : Nat, i < 5 → (Cond.eq (.field (k_tm i) "java/lang/String" "coder" "B") (.int 0)).before #[Value.ref b] s = true := fun i hi => by
    match i, hi with
    | 0, _ => exact hs _ (by decide +kernel)
    | 1, _ => exact hs _ (by decide +kernel)
    | 2, _ => exact hs _ (by decide +kernel)
    | 3, _ => exact hs _ (by decide +kernel)
    | 4, _ => exact hs _ (by decide +kernel)
    | n + 5, h => exact absurd h (by omega)
  have e3 : ∀ i : Nat, i < 5 → (Cond.arrayOf (.field (k_tm i) "java/lang/String" "value" "[B") .byte).before #[Value.ref b] s = true := fun i hi => by
    match i, hi with
    | 0, _ => exact hs _ (by decide +kernel)
    | 1, _ => exact hs _ (by decide +kernel)
    | 2, _ => exact hs _ (by decide +kernel)
    | 3, _ => exact hs _ (by decide +kernel)
    | 4, _ => exact hs _ (by decide +kernel)
    | n + 5, h => exact absurd h (by omega)
  have e4 : ∀ i : Nat, i < 5 → (Cond.eq (.length (.field (k_tm i) "java/lang/String" "value" "[B")) (.int (Int32.ofNat (z_len.getD i 0)))).before #[Value.ref b] s = true := fun i hi => by
    match i, hi with
    | 0, _ => exact hs _ (by decide +kernel)
    | 1, _ => exact hs _ (by decide +kernel)
    | 2, _ => exact hs _ (by decide +kernel)
    | 3, _ => exact hs _ (by decide +kernel)
    | 4, _ => exact hs _ (by decide +kernel)
    | n + 5, h => exact absurd h (by omega)
  have e5 : ∀ i : Nat, i < 5 → ∀ j : Nat, j < z_len.getD i 0 → (Cond.eq (.elem (.field (k_tm i) "java/lang/String" "value" "[B") (.int (Int32.ofNat j))) (.int ((z_byt.getD i []).getD j 0))).before #[Value.ref b] s = true := fun i hi => by
    match i, hi with
    | 0, _ =>
      intro j hj
      match j, hj with
      | 0, _ => exact hs _ (by decide +kernel)
      | 1, _ => exact hs _ (by decide +kernel)
      | 2, _ => exact hs _ (by decide +kernel)
      | 3, _ => exact hs _ (by decide +kernel)
      | n + 4, h => exact absurd h (by show ¬ n + 4 < 4; omega)
    | 1, _ =>
      intro j hj
      match j, hj with
      | 0, _ => exact hs _ (by decide +kernel)
      | 1, _ => exact hs _ (by decide +kernel)
      | n + 2, h => exact absurd h (by show ¬ n + 2 < 2; omega)
    | 2, _ =>
      intro j hj
      match j, hj with
      | 0, _ => exact hs _ (by decide +kernel)
      | 1, _ => exact hs _ (by decide +kernel)
      | 2, _ => exact hs _ (by decide +kernel)
      | 3, _ => exact hs _ (by decide +kernel)
      | 4, _ => exact hs _ (by decide +kernel)
      | n + 5, h => exact absurd h (by show ¬ n + 5 < 5; omega)
    | 3, _ =>
      intro j hj
      match j, hj with
      | 0, _ => exact hs _ (by decide +kernel)
      | 1, _ => exact hs _ (by decide +kernel)
      | 2, _ => exact hs _ (by decide +kernel)
      | 3, _ => exact hs _ (by decide +kernel)
      | n + 4, h => exact absurd h (by show ¬ n + 4 < 4; omega)
    | 4, _ =>
      intro j hj
      match j, hj with
      | n + 0, h => exact absurd h (by show ¬ n + 0 < 0; omega)
    | n + 5, h => exact absurd h (by omega)
  have e6 : ∀ i j : Nat, i < 5 → j < 5 → i ≠ j → (Cond.not (Cond.eq (k_tm i) (k_tm j))).before #[Value.ref b] s = true ∨ (Cond.not (Cond.eq (k_tm j) (k_tm i))).before #[Value.ref b] s = true := fun i j hi hj => by
    match i, hi with
    | 0, _ =>
      intro hne
      match j, hj with
      | 0, _ => exact absurd rfl hne
      | 1, _ => exact Or.inl (hs _ (by decide +kernel))
      | 2, _ => exact Or.inl (hs _ (by decide +kernel))
      | 3, _ => exact Or.inl (hs _ (by decide +kernel))
      | 4, _ => exact Or.inl (hs _ (by decide +kernel))
      | n + 5, h => exact absurd h (by omega)
    | 1, _ =>
      intro hne
      match j, hj with
      | 0, _ => exact Or.inr (hs _ (by decide +kernel))
      | 1, _ => exact absurd rfl hne
      | 2, _ => exact Or.inl (hs _ (by decide +kernel))
      | 3, _ => exact Or.inl (hs _ (by decide +kernel))
      | 4, _ => exact Or.inl (hs _ (by decide +kernel))
      | n + 5, h => exact absurd h (by omega)
    | 2, _ =>
      intro hne
      match j, hj with
      | 0, _ => exact Or.inr (hs _ (by decide +kernel))
      | 1, _ => exact Or.inr (hs _ (by decide +kernel))
      | 2, _ => exact absurd rfl hne
      | 3, _ => exact Or.inl (hs _ (by decide +kernel))
      | 4, _ => exact Or.inl (hs _ (by decide +kernel))
      | n + 5, h => exact absurd h (by omega)
    | 3, _ =>
      intro hne
      match j, hj with
      | 0, _ => exact Or.inr (hs _ (by decide +kernel))
      | 1, _ => exact Or.inr (hs _ (by decide +kernel))
      | 2, _ => exact Or.inr (hs _ (by decide +kernel))
      | 3, _ => exact absurd rfl hne
      | 4, _ => exact Or.inl (hs _ (by decide +kernel))
      | n + 5, h => exact absurd h (by omega)
    | 4, _ =>
      intro hne
      match j, hj with
      | 0, _ => exact Or.inr (hs _ (by decide +kernel))
      | 1, _ => exact Or.inr (hs _ (by decide +kernel))
      | 2, _ => exact Or.inr (hs _ (by decide +kernel))
      | 3, _ => exact Or.inr (hs _ (by decide +kernel))
      | 4, _ => exact absurd rfl hne
      | n + 5, h => exact absurd h (by omega)
    | n + 5, h => exact absurd h (by omega)
  obtain ⟨adK, adV, hvk, hev⟩ := vk_Sof (tm := k_tm) (N := 5) (len := z_len) (byt := z_byt) (A := A) (by decide) e1 e2 e3 e4 e5 e6 hA
  have hq : va_Zq "jdk/internal/util/Preconditions" "SIOOBE_FORMATTER" "Ljava/util/function/BiFunction;" A s s.heap := va_Zqof (hts _ (List.mem_of_getElem? (i := 419) rfl)) (hts _ (List.mem_of_getElem? (i := 63) rfl)) (hs _ (by decide +kernel)) hA
  have hr : ∀ i, i < 5 → vk_R RX6 (z_ix i) (z_tx i) (adK i) s := fun i hi => by
    refine vk_R.of (A := #[Value.ref b]) ?_ (hev i hi)
    match i, hi with
    | 0, _ => exact hts _ (List.mem_of_getElem? (i := 385) rfl)
    | 1, _ => exact hts _ (List.mem_of_getElem? (i := 386) rfl)
    | 2, _ => exact hts _ (List.mem_of_getElem? (i := 387) rfl)
    | 3, _ => exact hts _ (List.mem_of_getElem? (i := 388) rfl)
    | 4, _ => exact hts _ (List.mem_of_getElem? (i := 389) rfl)
    | n + 5, h => exact absurd h (by omega)
  have hz : va_Z "java/lang/String" "COMPACT_STRINGS" "Z" (.int 1) A s s.heap := va_Zof (hts _ (List.mem_of_getElem? (i := 403) rfl)) (hts _ (List.mem_of_getElem? (i := 61) rfl)) (va_eqi (hs _ (by decide +kernel))) hA
  have hn : ∀ q ∈ z_nst, va_Nw (.methodLinkNest q.1 q.2.1 q.2.2.1 q.2.2.2) s := List.forall_mem_cons.mpr ⟨va_Nw.of rfl (hts _ (List.mem_of_getElem? (i := 709) rfl)), List.forall_mem_cons.mpr ⟨va_Nw.of rfl (hts _ (List.mem_of_getElem? (i := 825) rfl)), fun _ h => absurd h List.not_mem_nil⟩⟩
  have hk : k_nst s := ⟨List.forall_mem_cons.mpr ⟨va_Nw.of rfl (hts _ (List.mem_of_getElem? (i := 78) rfl)), List.forall_mem_cons.mpr ⟨va_Nw.of rfl (hts _ (List.mem_of_getElem? (i := 105) rfl)), List.forall_mem_cons.mpr ⟨va_Nw.of rfl (hts _ (List.mem_of_getElem? (i := 147) rfl)), List.forall_mem_cons.mpr ⟨va_Nw.of rfl (hts _ (List.mem_of_getElem? (i := 189) rfl)), List.forall_mem_cons.mpr ⟨va_Nw.of rfl (hts _ (List.mem_of_getElem? (i := 209) rfl)), List.forall_mem_cons.mpr ⟨va_Nw.of rfl (hts _ (List.mem_of_getElem? (i := 248) rfl)), List.forall_mem_cons.mpr ⟨va_Nw.of rfl (hts _ (List.mem_of_getElem? (i := 283) rfl)), fun _ h => absurd h List.not_mem_nil⟩⟩⟩⟩⟩⟩⟩, over_moved (Vm.Alike.refl s.vm) (hts (.arrayOver (.array .int)) (List.mem_of_getElem? (i := 214) rfl))⟩
  rcases hq with hq | ⟨t, hq⟩
  · exact ⟨adK, adV, 0, hvk, hr, hz, Or.inl hq, hn, hk⟩
  · exact ⟨adK, adV, t, hvk, hr, hz, Or.inr hq, hn, hk⟩
