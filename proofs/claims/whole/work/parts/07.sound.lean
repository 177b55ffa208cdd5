theorem z_nx {n nxt pc : Nat} (h : (Nat.beq (n + 1) 0 || Nat.beq nxt (pc + (n + 1))) = true) : nxt = pc + (n + 1) := Nat.eq_of_beq_eq_true h
theorem z_sw_lk {pc tgt : Nat} {dflt : Int} {x : Int32} {k : Nat → Prop} (ht : (pc : Int) + dflt = (tgt : Int)) : ∀ {sw : List (Int32 × Nat)} {ps : List (Int × Int)}, z_swk pc sw ps = true → z_sw x k tgt sw → ∃ t : Nat, k t ∧ (pc : Int) + Op.lookupswitch.offset ps dflt x.toInt = (t : Int)
  | [], [], _, hs => ⟨tgt, hs, by rw [lookupswitch.offset_nil]; exact ht⟩
  | [], _ :: _, hc, _ => by cases hc
  | _ :: _, [], hc, _ => by cases hc
  | q :: a, (w1, w2) :: b, hc, hs => by
    obtain ⟨h12, h3⟩ := Bool.and_eq_true_iff.mp hc
    obtain ⟨h1, h2⟩ := Bool.and_eq_true_iff.mp h12
    have h1 : q.1.toInt = w1 := of_decide_eq_true h1
    have h2 : (pc : Int) + w2 = (q.2 : Int) := of_decide_eq_true h2
    by_cases hx : x = q.1
    · refine ⟨q.2, hs.1 hx, ?_⟩
      rw [lookupswitch.offset_cons, if_pos (by rw [hx, h1])]
      exact h2
    · obtain ⟨t, g1, g2⟩ := z_sw_lk ht h3 (hs.2 hx)
      refine ⟨t, g1, ?_⟩
      rw [lookupswitch.offset_cons, if_neg (fun e => hx (Int32.toInt_inj.mp (by rw [h1, e])))]
      exact g2
theorem z_sw_tb {pc tgt : Nat} {x : Int32} {k : Nat → Prop} : ∀ {sw : List (Int32 × Nat)} {offs : List Int} {lo : Int}, z_swk pc sw (z_tsl lo offs) = true → z_sw x k tgt sw → (∃ (j : Nat) (off : Int) (t : Nat), offs[j]? = some off ∧ x.toInt = lo + (j : Int) ∧ (pc : Int) + off = (t : Int) ∧ k t) ∨ ((∀ j : Nat, j < offs.length → ¬ x.toInt = lo + (j : Int)) ∧ k tgt)
  | [], [], _, _, hs => Or.inr ⟨fun j hj => absurd hj (Nat.not_lt_zero j), hs⟩
  | [], _ :: _, _, hc, _ => by cases hc
  | _ :: _, [], _, hc, _ => by cases hc
  | q :: a, o :: b, lo, hc, hs => by
    obtain ⟨h12, h3⟩ := Bool.and_eq_true_iff.mp hc
    obtain ⟨h1, h2⟩ := Bool.and_eq_true_iff.mp h12
    have h1 : q.1.toInt = lo := of_decide_eq_true h1
    have h2 : (pc : Int) + o = (q.2 : Int) := of_decide_eq_true h2
    by_cases hx : x = q.1
    · exact Or.inl ⟨0, o, q.2, rfl, by rw [hx, h1]; simp, h2, hs.1 hx⟩
    · rcases z_sw_tb h3 (hs.2 hx) with ⟨j, off, t, g1, g2, g3, g4⟩ | ⟨g1, g2⟩
      · exact Or.inl ⟨j + 1, off, t, by simpa using g1, by rw [g2]; omega, g3, g4⟩
      · refine Or.inr ⟨fun j hj => ?_, g2⟩
        cases j with
        | zero => exact fun e => hx (Int32.toInt_inj.mp (by rw [h1, e]; simp))
        | succ j =>
          have hj' : j < b.length := by simpa using hj
          have := g1 j hj'
          omega
set_option maxHeartbeats 4000000 in
set_option maxRecDepth 20000 in
theorem z_stp_ok {c d nh : Nat} {cc : ByteArray} {nL : Nat} {scr : Option (Nat × (Nat → Int32))} {Z R : z_Zt} {k : z_Kt} {pc nxt tgt : Nat} {lit : Int32} {sw : List (Int32 × Nat)} {L : List (Nat × z_V)} {st : List z_V} {h : List z_C} (i : Instr)
    (hdec : decode cc pc = .ok (i, nxt - pc)) (hil : (Nat.beq (z_il i) 0 || Nat.beq nxt (pc + z_il i)) = true) (hchk : z_chkI nL pc lit tgt sw i = true)
    (hK : ∀ pc' L' st' h', k pc' L' st' h' → z_Run (d + 1) nh (z_own c) cc nL scr Z pc' L' st' h') (hR : ∀ v h', R v h' → Z v h')
    (hs : z_stp c scr (z_EvM d nh) R k nxt lit tgt sw L st h i) : z_Run (d + 1) nh (z_own c) cc nL scr Z pc L st h := by
  cases i with
  | iconst v =>
    have hnx := z_nx (n := 0) hil
    subst hnx
    rw [Nat.add_sub_cancel_left] at hdec
    have hv := of_decide_eq_true hchk
    subst hv
    exact z_iconst hdec (hK _ _ _ _ hs)
  | bipush v =>
    have hnx := z_nx (n := 1) hil
    subst hnx
    rw [Nat.add_sub_cancel_left] at hdec
    have hv := of_decide_eq_true hchk
    subst hv
    exact z_bipush hdec (hK _ _ _ _ hs)
  | sipush v =>
    have hnx := z_nx (n := 2) hil
    subst hnx
    rw [Nat.add_sub_cancel_left] at hdec
    have hv := of_decide_eq_true hchk
    subst hv
    exact z_sipush hdec (hK _ _ _ _ hs)
  | iadd =>
    have hnx := z_nx (n := 0) hil
    subst hnx
    rw [Nat.add_sub_cancel_left] at hdec
    dsimp only [z_stp] at hs
    split at hs
    · exact z_iadd hdec (hK _ _ _ _ hs)
    · exact False.elim hs
  | isub =>
    have hnx := z_nx (n := 0) hil
    subst hnx
    rw [Nat.add_sub_cancel_left] at hdec
    dsimp only [z_stp] at hs
    split at hs
    · exact z_isub hdec (hK _ _ _ _ hs)
    · exact False.elim hs
  | imul =>
    have hnx := z_nx (n := 0) hil
    subst hnx
    rw [Nat.add_sub_cancel_left] at hdec
    dsimp only [z_stp] at hs
    split at hs
    · exact z_imul hdec (hK _ _ _ _ hs)
    · exact False.elim hs
  | ishl =>
    have hnx := z_nx (n := 0) hil
    subst hnx
    rw [Nat.add_sub_cancel_left] at hdec
    dsimp only [z_stp] at hs
    split at hs
    · exact z_ishl hdec (hK _ _ _ _ hs)
    · exact False.elim hs
  | ishr =>
    have hnx := z_nx (n := 0) hil
    subst hnx
    rw [Nat.add_sub_cancel_left] at hdec
    dsimp only [z_stp] at hs
    split at hs
    · exact z_ishr hdec (hK _ _ _ _ hs)
    · exact False.elim hs
  | iushr =>
    have hnx := z_nx (n := 0) hil
    subst hnx
    rw [Nat.add_sub_cancel_left] at hdec
    dsimp only [z_stp] at hs
    split at hs
    · exact z_iushr hdec (hK _ _ _ _ hs)
    · exact False.elim hs
  | iand =>
    have hnx := z_nx (n := 0) hil
    subst hnx
    rw [Nat.add_sub_cancel_left] at hdec
    dsimp only [z_stp] at hs
    split at hs
    · exact z_iand hdec (hK _ _ _ _ hs)
    · exact False.elim hs
  | ior =>
    have hnx := z_nx (n := 0) hil
    subst hnx
    rw [Nat.add_sub_cancel_left] at hdec
    dsimp only [z_stp] at hs
    split at hs
    · exact z_ior hdec (hK _ _ _ _ hs)
    · exact False.elim hs
  | ineg =>
    have hnx := z_nx (n := 0) hil
    subst hnx
    rw [Nat.add_sub_cancel_left] at hdec
    dsimp only [z_stp] at hs
    split at hs
    · exact z_ineg hdec (hK _ _ _ _ hs)
    · exact False.elim hs
  | dup =>
    have hnx := z_nx (n := 0) hil
    subst hnx
    rw [Nat.add_sub_cancel_left] at hdec
    dsimp only [z_stp] at hs
    split at hs
    · exact z_dup hdec (hK _ _ _ _ hs)
    · exact False.elim hs
  | dup2 =>
    have hnx := z_nx (n := 0) hil
    subst hnx
    rw [Nat.add_sub_cancel_left] at hdec
    dsimp only [z_stp] at hs
    split at hs
    · exact z_dup2 hdec (hK _ _ _ _ hs)
    · exact False.elim hs
  | pop =>
    have hnx := z_nx (n := 0) hil
    subst hnx
    rw [Nat.add_sub_cancel_left] at hdec
    dsimp only [z_stp] at hs
    split at hs
    · exact z_pop hdec (hK _ _ _ _ hs)
    · exact False.elim hs
  | idiv =>
    have hnx := z_nx (n := 0) hil
    subst hnx
    rw [Nat.add_sub_cancel_left] at hdec
    dsimp only [z_stp] at hs
    split at hs
    · exact z_idiv hdec hs.1 (hK _ _ _ _ hs.2)
    · exact False.elim hs
  | irem =>
    have hnx := z_nx (n := 0) hil
    subst hnx
    rw [Nat.add_sub_cancel_left] at hdec
    dsimp only [z_stp] at hs
    split at hs
    · exact z_irem hdec hs.1 (hK _ _ _ _ hs.2)
    · exact False.elim hs
  | iload_n v =>
    have hnx := z_nx (n := 0) hil
    subst hnx
    rw [Nat.add_sub_cancel_left] at hdec
    dsimp only [z_stp] at hs
    split at hs
    · exact z_iload_n hdec (by assumption) (hK _ _ _ _ hs)
    · exact False.elim hs
  | iload v =>
    have hnx := z_nx (n := 1) hil
    subst hnx
    rw [Nat.add_sub_cancel_left] at hdec
    dsimp only [z_stp] at hs
    split at hs
    · exact z_iload hdec (by assumption) (hK _ _ _ _ hs)
    · exact False.elim hs
  | aload_n v =>
    have hnx := z_nx (n := 0) hil
    subst hnx
    rw [Nat.add_sub_cancel_left] at hdec
    dsimp only [z_stp] at hs
    split at hs
    · exact z_aload_n hdec (by assumption) (hK _ _ _ _ hs)
    · exact False.elim hs
  | aload v =>
    have hnx := z_nx (n := 1) hil
    subst hnx
    rw [Nat.add_sub_cancel_left] at hdec
    dsimp only [z_stp] at hs
    split at hs
    · exact z_aload hdec (by assumption) (hK _ _ _ _ hs)
    · exact False.elim hs
  | istore_n v =>
    have hnx := z_nx (n := 0) hil
    subst hnx
    rw [Nat.add_sub_cancel_left] at hdec
    have hv := of_decide_eq_true hchk
    dsimp only [z_stp] at hs
    split at hs
    · exact z_istore_n hdec hv (hK _ _ _ _ hs)
    · exact False.elim hs
  | istore v =>
    have hnx := z_nx (n := 1) hil
    subst hnx
    rw [Nat.add_sub_cancel_left] at hdec
    have hv := of_decide_eq_true hchk
    dsimp only [z_stp] at hs
    split at hs
    · exact z_istore hdec hv (hK _ _ _ _ hs)
    · exact False.elim hs
  | astore_n v =>
    have hnx := z_nx (n := 0) hil
    subst hnx
    rw [Nat.add_sub_cancel_left] at hdec
    have hv := of_decide_eq_true hchk
    dsimp only [z_stp] at hs
    split at hs
    · exact z_astore_n hdec hv (hK _ _ _ _ hs)
    · exact False.elim hs
  | astore v =>
    have hnx := z_nx (n := 1) hil
    subst hnx
    rw [Nat.add_sub_cancel_left] at hdec
    have hv := of_decide_eq_true hchk
    dsimp only [z_stp] at hs
    split at hs
    · exact z_astore hdec hv (hK _ _ _ _ hs)
    · exact False.elim hs
  | iinc v n =>
    have hnx := z_nx (n := 2) hil
    subst hnx
    rw [Nat.add_sub_cancel_left] at hdec
    obtain ⟨h1, h2⟩ := Bool.and_eq_true_iff.mp hchk
    have h1 := of_decide_eq_true h1
    have h2 := of_decide_eq_true h2
    subst h2
    dsimp only [z_stp] at hs
    split at hs
    · exact z_iinc hdec h1 (by assumption) (hK _ _ _ _ hs)
    · exact False.elim hs
  | if_icmp cd off =>
    have hnx := z_nx (n := 2) hil
    subst hnx
    rw [Nat.add_sub_cancel_left] at hdec
    have ht := of_decide_eq_true hchk
    cases cd with
    | eq =>
      dsimp only [z_stp] at hs
      split at hs
      · exact z_icmp_eq hdec ht (fun q => hK _ _ _ _ (hs.1 q)) (fun q => hK _ _ _ _ (hs.2 q))
      · exact False.elim hs
    | ne =>
      dsimp only [z_stp] at hs
      split at hs
      · exact z_icmp_ne hdec ht (fun q => hK _ _ _ _ (hs.1 q)) (fun q => hK _ _ _ _ (hs.2 q))
      · exact False.elim hs
    | lt =>
      dsimp only [z_stp] at hs
      split at hs
      · exact z_icmp_lt hdec ht (fun q => hK _ _ _ _ (hs.1 q)) (fun q => hK _ _ _ _ (hs.2 q))
      · exact False.elim hs
    | ge =>
      dsimp only [z_stp] at hs
      split at hs
      · exact z_icmp_ge hdec ht (fun q => hK _ _ _ _ (hs.1 q)) (fun q => hK _ _ _ _ (hs.2 q))
      · exact False.elim hs
    | gt =>
      dsimp only [z_stp] at hs
      split at hs
      · exact z_icmp_gt hdec ht (fun q => hK _ _ _ _ (hs.1 q)) (fun q => hK _ _ _ _ (hs.2 q))
      · exact False.elim hs
    | le =>
      dsimp only [z_stp] at hs
      split at hs
      · exact z_icmp_le hdec ht (fun q => hK _ _ _ _ (hs.1 q)) (fun q => hK _ _ _ _ (hs.2 q))
      · exact False.elim hs
  | ifCond cd off =>
    have hnx := z_nx (n := 2) hil
    subst hnx
    rw [Nat.add_sub_cancel_left] at hdec
    have ht := of_decide_eq_true hchk
    cases cd with
    | eq =>
      dsimp only [z_stp] at hs
      split at hs
      · exact z_if_eq hdec ht (fun q => hK _ _ _ _ (hs.1 q)) (fun q => hK _ _ _ _ (hs.2 q))
      · exact False.elim hs
    | ne =>
      dsimp only [z_stp] at hs
      split at hs
      · exact z_if_ne hdec ht (fun q => hK _ _ _ _ (hs.1 q)) (fun q => hK _ _ _ _ (hs.2 q))
      · exact False.elim hs
    | lt =>
      dsimp only [z_stp] at hs
      split at hs
      · exact z_if_lt hdec ht (fun q => hK _ _ _ _ (hs.1 q)) (fun q => hK _ _ _ _ (hs.2 q))
      · exact False.elim hs
    | ge =>
      dsimp only [z_stp] at hs
      split at hs
      · exact z_if_ge hdec ht (fun q => hK _ _ _ _ (hs.1 q)) (fun q => hK _ _ _ _ (hs.2 q))
      · exact False.elim hs
    | gt =>
      dsimp only [z_stp] at hs
      split at hs
      · exact z_if_gt hdec ht (fun q => hK _ _ _ _ (hs.1 q)) (fun q => hK _ _ _ _ (hs.2 q))
      · exact False.elim hs
    | le =>
      dsimp only [z_stp] at hs
      split at hs
      · exact z_if_le hdec ht (fun q => hK _ _ _ _ (hs.1 q)) (fun q => hK _ _ _ _ (hs.2 q))
      · exact False.elim hs
  | goto off =>
    have hnx := z_nx (n := 2) hil
    subst hnx
    rw [Nat.add_sub_cancel_left] at hdec
    exact z_goto hdec (of_decide_eq_true hchk) (hK _ _ _ _ hs)
  | lookupswitch df ps =>
    obtain ⟨h12, h3⟩ := Bool.and_eq_true_iff.mp hchk
    obtain ⟨h1, h2⟩ := Bool.and_eq_true_iff.mp h12
    dsimp only [z_stp] at hs
    split at hs
    · obtain ⟨t, g1, g2⟩ := z_sw_lk (of_decide_eq_true h1) h3 hs
      exact z_lookup hdec h2 rfl g2 (hK _ _ _ _ g1)
    · exact False.elim hs
  | tableswitch df lo hi offs =>
    obtain ⟨h12, h3⟩ := Bool.and_eq_true_iff.mp hchk
    obtain ⟨h1, h2⟩ := Bool.and_eq_true_iff.mp h12
    have h3 := of_decide_eq_true h3
    dsimp only [z_stp] at hs
    split at hs
    · rename_i x r
      rcases z_sw_tb h2 hs with ⟨j, off, t, g1, g2, g3, g4⟩ | ⟨g1, g2⟩
      · have hj : j < offs.toList.length := (List.getElem?_eq_some_iff.mp g1).1
        refine z_tableIn hdec (by omega) (by omega) (off := off) ?_ g3 (hK _ _ _ _ g4)
        rw [show (x.toInt - lo).toNat = j by omega, ← Array.getElem?_toList]
        exact g1
      · refine z_tableOut hdec ?_ (of_decide_eq_true h1) (hK _ _ _ _ g2)
        by_cases hx : x.toInt < lo
        · exact Or.inl hx
        · refine Or.inr (Int.not_le.mp (fun hle => ?_))
          have := g1 (x.toInt - lo).toNat (by omega)
          omega
    · exact False.elim hs
  | ldc v =>
    have hnx := z_nx (n := 1) hil
    subst hnx
    rw [Nat.add_sub_cancel_left] at hdec
    dsimp only [z_stp] at hs
    split at hs
    · exact z_ldc hdec (z_kr_ok (by assumption)) (hK _ _ _ _ hs)
    · split at hs
      · rename_i q hq
        unfold z_sr at hq
        cases hb : Nat.beq c 6 with
        | false => rw [hb] at hq; cases hq
        | true =>
          have hc6 := Nat.eq_of_beq_eq_true hb
          rw [hb] at hq
          dsimp only [cond] at hq
          have hx : q < 5 ∧ v = z_ix q := by
            split at hq <;> cases hq <;> exact ⟨by decide, rfl⟩
          obtain ⟨h5, rfl⟩ := hx
          exact z_ldcS h5 (by rw [hc6]; rfl) hdec (hK _ _ _ _ hs)
      · exact False.elim hs
  | ldc_w v =>
    have hnx := z_nx (n := 2) hil
    subst hnx
    rw [Nat.add_sub_cancel_left] at hdec
    dsimp only [z_stp] at hs
    split at hs
    · exact z_ldcw hdec (z_kr_ok (by assumption)) (hK _ _ _ _ hs)
    · exact False.elim hs
  | getfield v =>
    have hnx := z_nx (n := 2) hil
    subst hnx
    rw [Nat.add_sub_cancel_left] at hdec
    dsimp only [z_stp] at hs
    cases hf : z_fr c v with
    | none => rw [hf] at hs; exact False.elim hs
    | some q =>
      obtain ⟨ci, kf, tg⟩ := q
      rw [hf] at hs
      dsimp only at hs
      obtain ⟨C0, T0, N0, hK0, hkN, hlk, -⟩ := z_fr_ok hf
      split at hs
      · split at hs
        · rename_i ci' fs ha
          cases hb : Nat.beq ci ci' with
          | false => rw [hb] at hs; exact False.elim hs
          | true =>
            have hcc := Nat.eq_of_beq_eq_true hb
            subst hcc
            rw [hb] at hs
            dsimp only [cond] at hs
            split at hs
            · exact z_getf hdec hK0 hkN hlk ha (by assumption) (hK _ _ _ _ hs)
            · exact False.elim hs
        · exact False.elim hs
      · exact False.elim hs
  | putfield v =>
    have hnx := z_nx (n := 2) hil
    subst hnx
    rw [Nat.add_sub_cancel_left] at hdec
    dsimp only [z_stp] at hs
    cases hf : z_fr c v with
    | none => rw [hf] at hs; exact False.elim hs
    | some q =>
      obtain ⟨ci, kf, tg⟩ := q
      rw [hf] at hs
      dsimp only at hs
      obtain ⟨C0, T0, N0, hK0, hkN, hlk, hty⟩ := z_fr_ok hf
      split at hs
      · rename_i x a r
        split at hs
        · rename_i ci' fs ha
          cases hb : (Nat.beq ci ci' && Nat.blt kf fs.length) with
          | false => rw [hb] at hs; exact False.elim hs
          | true =>
            obtain ⟨hb1, hb2⟩ := Bool.and_eq_true_iff.mp hb
            have hcc := Nat.eq_of_beq_eq_true hb1
            have hlen : kf < fs.length := Nat.le_of_ble_eq_true hb2
            subst hcc
            rw [hb] at hs
            dsimp only [cond] at hs
            cases ht0 : Nat.beq tg 0 with
            | true =>
              have e0 := Nat.eq_of_beq_eq_true ht0
              subst e0
              rw [ht0] at hs
              dsimp only [cond] at hs
              rcases hty with hty | hty
              · cases hty
              · exact z_putf hdec hK0 hkN hlk hty.1 hty.2 rfl rfl hlen ha (hK _ _ _ _ hs)
            | false =>
              rw [ht0] at hs
              dsimp only [cond] at hs
              cases ht1 : Nat.beq tg 1 with
              | true =>
                have e0 := Nat.eq_of_beq_eq_true ht1
                subst e0
                rw [ht1] at hs
                dsimp only [cond] at hs
                rcases hty with hty | hty
                · cases hty
                · rcases hs.1 with rfl | rfl
                  · exact z_putf hdec hK0 hkN hlk hty.1 hty.2 rfl rfl hlen ha (hK _ _ _ _ hs.2)
                  · exact z_putf hdec hK0 hkN hlk hty.1 hty.2 rfl rfl hlen ha (hK _ _ _ _ hs.2)
              | false => rw [ht1] at hs; exact False.elim hs
        · exact False.elim hs
      · exact False.elim hs
  | iaload =>
    have hnx := z_nx (n := 0) hil
    subst hnx
    rw [Nat.add_sub_cancel_left] at hdec
    dsimp only [z_stp] at hs
    split at hs
    · rename_i j a r
      cases hb : Nat.beq a 999999 with
      | true =>
        have e0 := Nat.eq_of_beq_eq_true hb
        subst e0
        rw [hb] at hs
        dsimp only [cond] at hs
        split at hs
        · exact z_sld hdec rfl hs.1 (hK _ _ _ _ hs.2)
        · exact False.elim hs
      | false =>
        rw [hb] at hs
        dsimp only [cond] at hs
        split at hs
        · exact z_iald hdec (by assumption) hs.1 (hK _ _ _ _ hs.2)
        · exact False.elim hs
    · exact False.elim hs
  | baload =>
    have hnx := z_nx (n := 0) hil
    subst hnx
    rw [Nat.add_sub_cancel_left] at hdec
    dsimp only [z_stp] at hs
    split at hs
    · split at hs
      · exact z_bald hdec (by assumption) hs.1 (hK _ _ _ _ hs.2)
      · exact False.elim hs
    · exact False.elim hs
  | aaload =>
    have hnx := z_nx (n := 0) hil
    subst hnx
    rw [Nat.add_sub_cancel_left] at hdec
    dsimp only [z_stp] at hs
    split at hs
    · split at hs
      · exact z_aald hdec (by assumption) hs.1 (hK _ _ _ _ hs.2)
      · exact False.elim hs
    · exact False.elim hs
  | iastore =>
    have hnx := z_nx (n := 0) hil
    subst hnx
    rw [Nat.add_sub_cancel_left] at hdec
    dsimp only [z_stp] at hs
    split at hs
    · split at hs
      · exact z_iast hdec (by assumption) hs.1 (hK _ _ _ _ hs.2)
      · exact False.elim hs
    · exact False.elim hs
  | bastore =>
    have hnx := z_nx (n := 0) hil
    subst hnx
    rw [Nat.add_sub_cancel_left] at hdec
    dsimp only [z_stp] at hs
    split at hs
    · split at hs
      · exact z_bast hdec (by assumption) hs.1 (hK _ _ _ _ hs.2)
      · exact False.elim hs
    · exact False.elim hs
  | arraylength =>
    have hnx := z_nx (n := 0) hil
    subst hnx
    rw [Nat.add_sub_cancel_left] at hdec
    dsimp only [z_stp] at hs
    split at hs
    · rename_i a r
      cases hb : Nat.beq a 999999 with
      | true =>
        have e0 := Nat.eq_of_beq_eq_true hb
        subst e0
        rw [hb] at hs
        dsimp only [cond] at hs
        split at hs
        · exact z_slen hdec rfl (hK _ _ _ _ hs)
        · exact False.elim hs
      | false =>
        rw [hb] at hs
        dsimp only [cond] at hs
        split at hs
        · exact z_alen hdec (by assumption) (hK _ _ _ _ hs)
        · exact False.elim hs
    · exact False.elim hs
  | invokevirtual v =>
    have hnx := z_nx (n := 2) hil
    subst hnx
    rw [Nat.add_sub_cancel_left] at hdec
    dsimp only [z_stp] at hs
    cases hm : z_mr c v with
    | none => rw [hm] at hs; exact False.elim hs
    | some j =>
      rw [hm] at hs
      dsimp only at hs
      cases he : z_mm j with
      | none => rw [he] at hs; exact False.elim hs
      | some e =>
        rw [he] at hs
        dsimp only at hs
        have hlk : Jvm.Cond.methodLink (z_own c) v e.1 ∈ ALL ∨ ((z_own c, v, e.1, RX7) ∈ z_nst ∧ e.2.2.2.2.1 = 1) := by
          rcases z_mr_ok hm with ⟨y, hy, -⟩ | ⟨e', he', hl⟩
          · exfalso
            unfold z_bi at hy
            split at hy <;> first | (cases he; done) | cases hy
          · rw [he] at he'
            cases he'
            exact hl
        obtain ⟨o1, o2, o3, o4, o5, o6, o7, o8⟩ := z_mm_ok he
        split at hs
        · rename_i as a r htr
          obtain ⟨t1, t2⟩ := z_tr_ok htr
          have t1 : st = as.reverse ++ .inr (some a) :: r := t1
          subst t1
          cases hr : Nat.ble r.length 8 with
          | false => rw [hr] at hs; exact False.elim hs
          | true =>
            have hr8 := Nat.le_of_ble_eq_true hr
            rw [hr] at hs
            dsimp only [cond] at hs
            cases hk0 : Nat.beq e.2.2.2.2.1 0 with
            | true =>
              rw [hk0] at hs
              dsimp only [cond] at hs
              obtain ⟨q1, q2, T0, N0, q3⟩ := o6 (Nat.eq_of_beq_eq_true hk0)
              split at hs
              · rename_i ci' fs ha
                cases hci : Nat.beq ci' e.2.2.2.2.2.1 with
                | false => rw [hci] at hs; exact False.elim hs
                | true =>
                  rw [hci] at hs
                  dsimp only [cond] at hs
                  have e0 := Nat.eq_of_beq_eq_true hci
                  obtain ⟨e2, he2, hev⟩ := hs
                  rw [he] at he2
                  cases he2
                  rcases hlk with hlk | hlk
                  · exact z_cV hdec o1 hlk q1 q2 o2 o3 q3 (by rw [ha, e0]) t2 hr8 o4 (hev.mono (fun v2 h2 hk => hK _ _ _ _ hk))
                  · exfalso
                    have := hlk.2
                    rw [Nat.eq_of_beq_eq_true hk0] at this
                    cases this
              · exact False.elim hs
            | false =>
              rw [hk0] at hs
              dsimp only [cond] at hs
              cases hk2 : Nat.beq e.2.2.2.2.1 2 with
              | false => rw [hk2] at hs; exact False.elim hs
              | true =>
                rw [hk2] at hs
                dsimp only [cond] at hs
                obtain ⟨q1, q2, q3⟩ := o8 (Nat.eq_of_beq_eq_true hk2)
                obtain ⟨⟨ha1, ha2⟩, e2, he2, hev⟩ := hs
                rw [he] at he2
                cases he2
                obtain ⟨i0, rfl⟩ : ∃ i0, a = 1000000 + i0 := ⟨a - 1000000, by omega⟩
                rcases hlk with hlk | hlk
                · exact z_cT (by omega) hdec q3 o1 hlk q1 q2 o2 o3 t2 hr8 o4 (hev.mono (fun v2 h2 hk => hK _ _ _ _ hk))
                · exfalso
                  have := hlk.2
                  rw [Nat.eq_of_beq_eq_true hk2] at this
                  cases this
        · exact False.elim hs
  | invokestatic v =>
    have hnx := z_nx (n := 2) hil
    subst hnx
    rw [Nat.add_sub_cancel_left] at hdec
    dsimp only [z_stp] at hs
    cases hm : z_mr c v with
    | none => rw [hm] at hs; exact False.elim hs
    | some j =>
      rw [hm] at hs
      dsimp only at hs
      cases he : z_mm j with
      | none =>
        rw [he] at hs
        dsimp only at hs
        have hlk : ∃ y, z_bi j = some y ∧ Jvm.Cond.methodLink (z_own c) v y ∈ ALL := by
          rcases z_mr_ok hm with hy | ⟨e', he', hl⟩
          · exact hy
          · rw [he] at he'; cases he'
        obtain ⟨y, hy, hlk⟩ := hlk
        split at hs
        · cases hy
          split at hs
          · rename_i n dp b sp a r
            cases hr : Nat.ble r.length 8 with
            | false => rw [hr] at hs; exact False.elim hs
            | true =>
              have hr8 := Nat.le_of_ble_eq_true hr
              rw [hr] at hs
              dsimp only [cond] at hs
              split at hs
              · rename_i n0 f ha
                split at hs
                · rename_i n1 f1 hb
                  obtain ⟨⟨⟨g1, g2, g3⟩, g4, g5⟩, g6⟩ := hs
                  exact z_copy hdec hlk z_cp1 z_cp2 z_cp3 ha hb g1 g2 g3 g4 g5 hr8 (hK _ _ _ _ g6)
                · exact False.elim hs
              · exact False.elim hs
          · exact False.elim hs
        · cases hy
          split at hs
          · rename_i x r
            cases hr : Nat.ble r.length 8 with
            | false => rw [hr] at hs; exact False.elim hs
            | true =>
              have hr8 := Nat.le_of_ble_eq_true hr
              rw [hr] at hs
              exact z_mabs hdec hlk hr8 (hK _ _ _ _ hs)
          · exact False.elim hs
        · cases hy
          split at hs
          · rename_i y x r
            cases hr : Nat.ble r.length 8 with
            | false => rw [hr] at hs; exact False.elim hs
            | true =>
              have hr8 := Nat.le_of_ble_eq_true hr
              rw [hr] at hs
              exact z_mmax hdec hlk hr8 (hK _ _ _ _ hs)
          · exact False.elim hs
        · cases hy
          split at hs
          · rename_i y x r
            cases hr : Nat.ble r.length 8 with
            | false => rw [hr] at hs; exact False.elim hs
            | true =>
              have hr8 := Nat.le_of_ble_eq_true hr
              rw [hr] at hs
              exact z_mmin hdec hlk hr8 (hK _ _ _ _ hs)
          · exact False.elim hs
        · exact False.elim hs
      | some e =>
        rw [he] at hs
        dsimp only at hs
        have hlk : Jvm.Cond.methodLink (z_own c) v e.1 ∈ ALL ∨ ((z_own c, v, e.1, RX7) ∈ z_nst ∧ e.2.2.2.2.1 = 1) := by
          rcases z_mr_ok hm with ⟨y, hy, -⟩ | ⟨e', he', hl⟩
          · exfalso
            unfold z_bi at hy
            split at hy <;> first | (cases he; done) | cases hy
          · rw [he] at he'
            cases he'
            exact hl
        obtain ⟨o1, o2, o3, o4, o5, o6, o7, o8⟩ := z_mm_ok he
        split at hs
        · rename_i as r htr
          obtain ⟨t1, t2⟩ := z_tr_ok htr
          have t1 : st = as.reverse ++ r := t1
          subst t1
          cases hr : (Nat.ble r.length 8 && Nat.beq e.2.2.2.2.1 1) with
          | false => rw [hr] at hs; exact False.elim hs
          | true =>
            obtain ⟨hr1, hr2⟩ := Bool.and_eq_true_iff.mp hr
            have hr8 := Nat.le_of_ble_eq_true hr1
            rw [hr] at hs
            dsimp only [cond] at hs
            obtain ⟨e2, he2, hev⟩ := hs
            rw [he] at he2
            cases he2
            have q1 := o7 (Nat.eq_of_beq_eq_true hr2)
            rcases hlk with hlk | hlk
            · exact z_cS hdec o1 hlk q1 o2 o3 t2 hr8 o4 (hev.mono (fun v2 h2 hk => hK _ _ _ _ hk))
            · exact z_cSN hdec o1 hlk.1 q1 o2 o3 t2 hr8 o4 (hev.mono (fun v2 h2 hk => hK _ _ _ _ hk))
        · exact False.elim hs
  | ireturn =>
    have hnx := z_nx (n := 0) hil
    subst hnx
    rw [Nat.add_sub_cancel_left] at hdec
    dsimp only [z_stp] at hs
    split at hs
    · exact z_done (v := some (.inl _)) hdec (hR _ _ hs)
    · exact False.elim hs
  | areturn =>
    have hnx := z_nx (n := 0) hil
    subst hnx
    rw [Nat.add_sub_cancel_left] at hdec
    dsimp only [z_stp] at hs
    split at hs
    · exact z_done (v := some (.inr _)) hdec (hR _ _ hs)
    · exact False.elim hs
  | return_ =>
    have hnx := z_nx (n := 0) hil
    subst hnx
    rw [Nat.add_sub_cancel_left] at hdec
    dsimp only [z_stp] at hs
    split at hs
    · exact z_done (v := none) hdec (hR _ _ hs)
    · exact False.elim hs
  | _ => exact False.elim hs
theorem z_sk_wp {c d nh : Nat} {cc : ByteArray} {nL : Nat} {t : z_T} {scr : Option (Nat × (Nat → Int32))} {sp : List (Nat × List Nat)} {Z R : z_Zt} {K : z_Kt} (ht : z_tchk cc nL t = true)
    (hK : ∀ pc' L' st' h', K pc' L' st' h' → z_Run (d + 1) nh (z_own c) cc nL scr Z pc' L' st' h') (hR : ∀ v h', R v h' → Z v h') : ∀ (f pc : Nat) (L : List (Nat × z_V)) (st : List z_V) (h : List z_C), z_wp c t scr sp (z_EvM d nh) K R f pc L st h → z_Run (d + 1) nh (z_own c) cc nL scr Z pc L st h := by
  intro f
  induction f with
  | zero => exact hK
  | succ f ih =>
    intro pc L st h hs
    have hs : (match z_lk t pc with
      | none => False
      | some (i, nxt, lit, tgt, sw) => z_stp c scr (z_EvM d nh) R (fun pc' L' st' h' => match z_sk sp pc' with
        | some ks => K pc' (z_pick L' ks) st' h'
        | none => z_wp c t scr sp (z_EvM d nh) K R f pc' L' st' h') nxt lit tgt sw L st h i) := hs
    cases hl : z_lk t pc with
    | none => rw [hl] at hs; exact False.elim hs
    | some e =>
      obtain ⟨i, nxt, lit, tgt, sw⟩ := e
      rw [hl] at hs
      dsimp only at hs
      have hc := List.all_eq_true.mp ht _ (z_lk_mem hl)
      obtain ⟨h12, h3⟩ := Bool.and_eq_true_iff.mp hc
      obtain ⟨h1, h2⟩ := Bool.and_eq_true_iff.mp h12
      refine z_stp_ok i (of_decide_eq_true h1) h2 h3 (fun pc' L' st' h' hk => ?_) hR hs
      split at hk
      · exact z_sub (fun q hq => z_pick_mem hq) (hK _ _ _ _ hk)
      · exact ih _ _ _ _ hk
/-- a body, by what is left to show -/
theorem z_Run_of {c d nh : Nat} {cc : ByteArray} {nL : Nat} {t : z_T} {scr : Option (Nat × (Nat → Int32))} {Z : z_Zt} {pc : Nat} {L : List (Nat × z_V)} {st : List z_V} {h : List z_C} (ht : z_tchk cc nL t = true) (sp : List (Nat × List Nat)) (f : Nat)
    (k : ∀ (C : z_Ct) (K : z_Kt) (R : z_Zt), (∀ j as h Z', z_EvM d nh j as h Z' → C j as h Z') → (∀ pc' L' st' h', z_Run (d + 1) nh (z_own c) cc nL scr Z pc' L' st' h' → K pc' L' st' h') → (∀ v h', Z v h' → R v h') → z_wp c t scr sp C K R f pc L st h) : z_Run (d + 1) nh (z_own c) cc nL scr Z pc L st h :=
  z_sk_wp ht (fun _ _ _ _ h => h) (fun _ _ h => h) f pc L st h (k (z_EvM d nh) (z_Run (d + 1) nh (z_own c) cc nL scr Z) Z (fun _ _ _ _ h => h) (fun _ _ _ _ h => h) (fun _ _ h => h))
/-- a call, by its body -/
theorem z_EvM_of {c d nh j : Nat} {e : z_MT} {t : z_T} {as : List z_V} {h : List z_C} {Z : z_Zt} (he : z_mm j = some e) (hc : e.1.cls = z_own c) (hlen : as.length ≤ e.2.2.1)
    (k : z_Run (d + 1) nh (z_own c) e.2.1 e.2.2.1 none (fun v h' => z_nar e.2.2.2.1 v ∧ Z v h') 0 (z_args 0 as) [] h) : z_EvM (d + 1) nh j as h Z := by
  refine ⟨e, he, z_Ev_of (z_mm_ok he).2.2.2.2.1 hlen ?_⟩
  rw [hc]
  exact k
