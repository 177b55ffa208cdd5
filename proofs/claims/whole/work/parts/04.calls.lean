/-! CALLS: a call's judgement is a contract; a body gives it; a caller goes on behind it -/
def z_QZ (Z : Option z_V → List z_C → Prop) (g : z_G) (nh : Nat) : Array Value → State → Outcome → State → Prop := fun _ st oc t => (∃ (v : Option z_V) (h' : List z_C), oc = .returned (v.map (z_cv g.2.2)) ∧ Z v h' ∧ h'.length = nh ∧ va_P g.1 vwCl (z_cw g h') t.heap) ∧ va_F (z_A g nh) st t
def z_Pc (g : z_G) (nh : Nat) (as : List z_V) (h : List z_C) : Array Value → State → Prop := va_Pc (as.map (z_cv g.2.2)) (fun U => va_P g.1 vwCl (z_cw g h) U.heap ∧ va_K g.1 vwCl (z_ty g) U ∧ z_lit g (z_A g nh) U U.heap)
def z_rm (d : Nat) : Room := { frames := d, cells := 0, slots := 0, locals := 64 * d }
def z_Ev (d nh : Nat) (y : MethodName) (cc : ByteArray) (nL : Nat) (ret : Option FieldType) (as : List z_V) (h : List z_C) (Z : Option z_V → List z_C → Prop) : Prop :=
  h.length = nh → ∀ (l : Launch) (g : z_G), z_inj g nh → Met l y (Jvm.Cond.code y cc nL ret :: ALL) (z_rm d) (z_Pc g nh as h) (z_QZ Z g nh) 0 0 (z_A g nh)
theorem z_blind {g : z_G} {nh : Nat} {as : List z_V} {h : List z_C} : FrameBlind (z_Pc g nh as h) := by
  intro a U f mk q
  obtain ⟨q0, qP, qK, qL⟩ := q
  exact ⟨q0, qP, va_K.moved (u := U) (U := U.calling f mk a) (Vm.Alike.refl U.vm) qK, qL.same (U := U.calling f mk a) rfl⟩
theorem z_sum (ad : Nat → Nat) (r : List z_V) : ((r.map (z_cv ad)).map fun v => v.category).sum = r.length := by
  induction r with
  | nil => rfl
  | cons a r ih => simp only [List.map_cons, List.sum_cons, List.length_cons, ih, z_cv_cat]; omega
section z_aft
variable {p : Program} {l : Launch} {e : Env} {R : Room} {s : State} {m : MethodId} {args : Array Value} {below : List Frame} {meth : Method} {c : Code} {H : Heap} {locs : List Loc} {cells slots : Nat} {Q : State → Prop}
variable {pc : Nat} {ls : Array Slot} {rest st0 : List Value} {a : Array Value} {A0 : Nat → Prop}
theorem z_after {g : z_G} {nh : Nat} {Z : Option z_V → List z_C → Prop} (hr : va_Run p l e R s m args below meth c H locs cells slots 0 0 (F0 m pc ls st0) rest (z_QZ Z g nh a) (z_A g nh)) (hS : va_S A0 s.heap H locs) (hA : ∀ q, z_A g nh q → A0 q)
    (kk : ∀ (v : Option z_V) (h' : List z_C) (H1 : Heap) (locs1 : List Loc), Z v h' → h'.length = nh → va_P g.1 vwCl (z_cw g h') H1 → va_S A0 s.heap H1 locs1 → W p l e R s m args below meth c H1 locs1 cells slots Q (F0 m (pc + 3) ls ((v.map (z_cv g.2.2)).toList ++ rest))) : W p l e R s m args below meth c H locs cells slots Q (F0 m pc ls st0) := by
  intro T hT X
  obtain ⟨v, st₀, t, T', L, h0, X', hL, e1, e2, ⟨⟨r, u, hv, hp, hlen, hb⟩, hz, hk⟩, st⟩ := hr T hT X
  cases hv
  rw [h0] at hz hk
  obtain ⟨t2, a1, b1⟩ := kk r u T'.heap (locs ++ L) hp hlen (by rw [e1]; exact hb)
    ⟨Nat.le_trans hS.1 (by rw [e1]; exact hz), fun q h1 h2 => by rw [e1, hk q (Nat.lt_of_lt_of_le h1 hS.1) (fun z => h2 (hA q z))]; exact hS.2.1 q h1 h2, fun q hq => by
      rcases List.mem_append.mp hq with h | h
      · exact hS.2.2 q h
      · exact hA _ (hL q h)⟩ T' rfl X'
  exact ⟨t2, st t2 a1, b1⟩
end z_aft
section z_cl
variable {d nh : Nat} {own : String} {cc : ByteArray} {nL : Nat} {scr : Option (Nat × (Nat → Int32))} {Z : Option z_V → List z_C → Prop} {pc : Nat} {L : List (Nat × z_V)} {r : List z_V} {h : List z_C}
variable {idx n nL' : Nat} {y : MethodName} {cc' : ByteArray} {ret' : Option FieldType} {as : List z_V}
theorem z_pre {g : z_G} {A : Nat → Prop} {s : State} {H : Heap} {locs : List Loc} (hK : va_K g.1 vwCl (z_ty g) s) (hA : ∀ q, z_A g nh q → A q) (hL : z_lit g A s s.heap) (hP : va_P g.1 vwCl (z_cw g h) H) (hS : va_S A s.heap H locs) {av : Array Value} (hav : av = (as.map (z_cv g.2.2)).toArray) : ∀ U : State, U.heap = H → s.WarmedH U.vm → z_Pc g nh as h av U := fun U hU hW =>
  ⟨hav, by rw [hU]; exact hP, va_K.moved hW.alike hK, by rw [hU]; exact ((hL.kept hS.2.1).narrow hA).warm hW⟩
theorem z_cV {ci a N : Nat} {T : u_T} {fs : List z_V} (hd : decode cc pc = .ok (.invokevirtual idx, 3)) (hc : Jvm.Cond.code y cc' nL' ret' ∈ ALL) (hl : Jvm.Cond.methodLink own idx y ∈ ALL) (hin : Jvm.Cond.instanceMethod y ∈ ALL) (hse : Jvm.Cond.selects y.cls y y ∈ ALL) (hini : Jvm.Cond.initialized y.cls ∈ ALL)
    (hy : y.cls ≠ "java/lang/invoke/MethodHandle" ∧ y.cls ≠ "java/lang/invoke/VarHandle" ∧ (parseMethodDescriptor y.desc).map (fun d => d.parameters.length) = some n) (hcl : vwCl[ci]? = some (y.cls, T, N)) (ha : h[a]? = some (.inr (.inr (.inr (ci, fs))))) (hn2 : as.length = n) (hr8 : r.length ≤ 8) (hm40 : nL' ≤ 40)
    (k : z_Ev d nh y cc' nL' ret' (.inr (some a) :: as) h (fun v h' => z_Run (d + 1) nh own cc nL scr Z (pc + 3) L (v.toList ++ r) h')) : z_Run (d + 1) nh own cc nL scr Z pc L (as.reverse ++ .inr (some a) :: r) h := by
  intro hn p l e R s m args below meth c g A kc ks H locs ls Q C hP hS hl' hR
  have hM := k hn l g C.2.2.1
  have hroom := C.2.2.2.2.2.2
  have hts := C.1.2.2.2.2
  refine z_after (va_runV (C := y.cls) (b := g.2.2 a) (As := as.map (z_cv g.2.2)) (rest := r.map (z_cv g.2.2)) (n := n) (bytes := cc') (maxL := nL') (ret := ret') C.1 hM ⟨callB_of n hts (good_in hc) rfl rfl rfl (hts _ hini) (hts _ hl) hy ⟨hroom.1, by show 8 + (nL' + 11) + 64 * d ≤ R.locals; omega⟩, hts _ hin, hts _ hse⟩ ⟨z_blind, va_recv C.2.1 hP hcl (z_cw_at ha), z_pre C.2.1 C.2.2.2.1 C.2.2.2.2.1 hP hS rfl⟩ rfl (by rw [List.length_map]; exact hn2) hl'.1 ?_ (lv_room (by rw [z_sum]; exact hr8)) hd ⟨hroom.2.2.1, hroom.2.2.2⟩) hS C.2.2.2.1 (fun v h' H1 locs1 hz hlen hP1 hS1 => ?_)
  · show (as.reverse ++ .inr (some a) :: r).map (z_cv g.2.2) = _
    rw [List.map_append, List.map_reverse]
    rfl
  · have := hz hlen p l e R s m args below meth c g A kc ks H1 locs1 ls Q C hP1 hS1 hl' hR
    rw [List.map_append] at this
    cases v <;> exact this
theorem z_cS (hd : decode cc pc = .ok (.invokestatic idx, 3)) (hc : Jvm.Cond.code y cc' nL' ret' ∈ ALL) (hl : Jvm.Cond.methodLink own idx y ∈ ALL) (hst : Jvm.Cond.static y ∈ ALL) (hini : Jvm.Cond.initialized y.cls ∈ ALL)
    (hy : y.cls ≠ "java/lang/invoke/MethodHandle" ∧ y.cls ≠ "java/lang/invoke/VarHandle" ∧ (parseMethodDescriptor y.desc).map (fun d => d.parameters.length) = some n) (hn2 : as.length = n) (hr8 : r.length ≤ 8) (hm40 : nL' ≤ 40)
    (k : z_Ev d nh y cc' nL' ret' as h (fun v h' => z_Run (d + 1) nh own cc nL scr Z (pc + 3) L (v.toList ++ r) h')) : z_Run (d + 1) nh own cc nL scr Z pc L (as.reverse ++ r) h := by
  intro hn p l e R s m args below meth c g A kc ks H locs ls Q C hP hS hl' hR
  have hM := k hn l g C.2.2.1
  have hroom := C.2.2.2.2.2.2
  have hts := C.1.2.2.2.2
  refine z_after (va_runS (As := as.map (z_cv g.2.2)) (rest := r.map (z_cv g.2.2)) (n := n) (bytes := cc') (maxL := nL') (ret := ret') C.1 hM ⟨callB_of n hts (good_in hc) rfl rfl rfl (hts _ hini) (hts _ hl) hy ⟨hroom.1, by show 8 + (nL' + 11) + 64 * d ≤ R.locals; omega⟩, hts _ hst⟩ ⟨z_blind, z_pre C.2.1 C.2.2.2.1 C.2.2.2.2.1 hP hS rfl⟩ rfl (by rw [List.length_map]; exact hn2) hl'.1 ?_ (lv_room (by rw [z_sum]; exact hr8)) hd ⟨hroom.2.2.1, hroom.2.2.2⟩) hS C.2.2.2.1 (fun v h' H1 locs1 hz hlen hP1 hS1 => ?_)
  · show (as.reverse ++ r).map (z_cv g.2.2) = _
    rw [List.map_append, List.map_reverse]
  · have := hz hlen p l e R s m args below meth c g A kc ks H1 locs1 ls Q C hP1 hS1 hl' hR
    rw [List.map_append] at this
    cases v <;> exact this
theorem z_cSN {host : String} (hd : decode cc pc = .ok (.invokestatic idx, 3)) (hc : Jvm.Cond.code y cc' nL' ret' ∈ ALL) (hl : (own, idx, y, host) ∈ z_nst) (hst : Jvm.Cond.static y ∈ ALL) (hini : Jvm.Cond.initialized y.cls ∈ ALL)
    (hy : y.cls ≠ "java/lang/invoke/MethodHandle" ∧ y.cls ≠ "java/lang/invoke/VarHandle" ∧ (parseMethodDescriptor y.desc).map (fun d => d.parameters.length) = some n) (hn2 : as.length = n) (hr8 : r.length ≤ 8) (hm40 : nL' ≤ 40)
    (k : z_Ev d nh y cc' nL' ret' as h (fun v h' => z_Run (d + 1) nh own cc nL scr Z (pc + 3) L (v.toList ++ r) h')) : z_Run (d + 1) nh own cc nL scr Z pc L (as.reverse ++ r) h := by
  intro hn p l e R s m args below meth c g A kc ks H locs ls Q C hP hS hl' hR
  have hM := k hn l g C.2.2.1
  have hroom := C.2.2.2.2.2.2
  have hts := C.1.2.2.2.2
  obtain ⟨-, -, -, -, hnst⟩ := C.2.2.2.2.1
  refine z_after (va_runSN (host := host) (As := as.map (z_cv g.2.2)) (rest := r.map (z_cv g.2.2)) (n := n) (bytes := cc') (maxL := nL') (ret := ret') C.1 hM ⟨va_cnB n hts (good_in hc) rfl rfl rfl (hnst _ hl) (hts _ hini) hy ⟨hroom.1, by show 8 + (nL' + 11) + 64 * d ≤ R.locals; omega⟩, hts _ hst, trivial⟩ ⟨z_blind, z_pre C.2.1 C.2.2.2.1 C.2.2.2.2.1 hP hS rfl⟩ rfl (by rw [List.length_map]; exact hn2) hl'.1 ?_ (lv_room (by rw [z_sum]; exact hr8)) hd ⟨hroom.2.2.1, hroom.2.2.2⟩) hS C.2.2.2.1 (fun v h' H1 locs1 hz hlen hP1 hS1 => ?_)
  · show (as.reverse ++ r).map (z_cv g.2.2) = _
    rw [List.map_append, List.map_reverse]
  · have := hz hlen p l e R s m args below meth c g A kc ks H1 locs1 ls Q C hP1 hS1 hl' hR
    rw [List.map_append] at this
    cases v <;> exact this
/-- a call of a text's method: its place is beyond the heap -/
theorem z_cT {i : Nat} (hi : i < 5) (hd : decode cc pc = .ok (.invokevirtual idx, 3)) (hcs : y.cls = "java/lang/String") (hc : Jvm.Cond.code y cc' nL' ret' ∈ ALL) (hl : Jvm.Cond.methodLink own idx y ∈ ALL) (hin : Jvm.Cond.instanceMethod y ∈ ALL) (hse : Jvm.Cond.selects y.cls y y ∈ ALL) (hini : Jvm.Cond.initialized y.cls ∈ ALL)
    (hy : y.cls ≠ "java/lang/invoke/MethodHandle" ∧ y.cls ≠ "java/lang/invoke/VarHandle" ∧ (parseMethodDescriptor y.desc).map (fun d => d.parameters.length) = some n) (hn2 : as.length = n) (hr8 : r.length ≤ 8) (hm40 : nL' ≤ 40)
    (k : z_Ev d nh y cc' nL' ret' (.inr (some (1000000 + i)) :: as) h (fun v h' => z_Run (d + 1) nh own cc nL scr Z (pc + 3) L (v.toList ++ r) h')) : z_Run (d + 1) nh own cc nL scr Z pc L (as.reverse ++ .inr (some (1000000 + i)) :: r) h := by
  intro hn p l e R s m args below meth c g A kc ks H locs ls Q C hP hS hl' hR
  have hM := k hn l g C.2.2.1
  have hroom := C.2.2.2.2.2.2
  have hts := C.1.2.2.2.2
  obtain ⟨hvk, -⟩ := C.2.2.2.2.1
  refine z_after (va_runV (C := y.cls) (b := g.2.2 (1000000 + i)) (As := as.map (z_cv g.2.2)) (rest := r.map (z_cv g.2.2)) (n := n) (bytes := cc') (maxL := nL') (ret := ret') C.1 hM ⟨callB_of n hts (good_in hc) rfl rfl rfl (hts _ hini) (hts _ hl) hy ⟨hroom.1, by show 8 + (nL' + 11) + 64 * d ≤ R.locals; omega⟩, hts _ hin, hts _ hse⟩ ⟨z_blind, by rw [hcs]; exact vk_recv (adK := fun i => g.2.2 (1000000 + i)) (adV := fun i => g.2.2 (2000000 + i)) hvk hi hS, z_pre C.2.1 C.2.2.2.1 C.2.2.2.2.1 hP hS rfl⟩ rfl (by rw [List.length_map]; exact hn2) hl'.1 ?_ (lv_room (by rw [z_sum]; exact hr8)) hd ⟨hroom.2.2.1, hroom.2.2.2⟩) hS C.2.2.2.1 (fun v h' H1 locs1 hz hlen hP1 hS1 => ?_)
  · show (as.reverse ++ .inr (some (1000000 + i)) :: r).map (z_cv g.2.2) = _
    rw [List.map_append, List.map_reverse]
    rfl
  · have := hz hlen p l e R s m args below meth c g A kc ks H1 locs1 ls Q C hP1 hS1 hl' hR
    rw [List.map_append] at this
    cases v <;> exact this
/-- System.arraycopy between two rows of ints -/
theorem z_copy {a b n0 n1 : Nat} {f f' : Nat → Int32} {sp dp k0 : Int32} (hd : decode cc pc = .ok (.invokestatic idx, 3)) (hl : Jvm.Cond.methodLink own idx arraycopyName ∈ ALL) (hna : Jvm.Cond.native arraycopyName ∈ ALL) (hst : Jvm.Cond.static arraycopyName ∈ ALL) (hini : Jvm.Cond.initialized "java/lang/System" ∈ ALL)
    (ha : h[a]? = some (.inl (n0, f))) (hb : h[b]? = some (.inl (n1, f'))) (h1 : ¬ sp < 0) (h2 : ¬ dp < 0) (h3 : ¬ k0 < 0) (h4 : sp.toNatClampNeg + k0.toNatClampNeg ≤ n0) (h5 : dp.toNatClampNeg + k0.toNatClampNeg ≤ n1) (hr8 : r.length ≤ 8)
    (k : z_Run (d + 1) nh own cc nL scr Z (pc + 3) L r (h.set b (.inl (n1, va_cpy f f' sp.toNatClampNeg dp.toNatClampNeg k0.toNatClampNeg)))) : z_Run (d + 1) nh own cc nL scr Z pc L (.inl k0 :: .inl dp :: .inr (some b) :: .inl sp :: .inr (some a) :: r) h := by
  intro hn p l e R s m args below meth c g A kc ks H locs ls Q C hP hS hl' hR
  have hroom := C.2.2.2.2.2.2
  have hts := C.1.2.2.2.2
  have hnf : nativeFrameWords "java/lang/System" "arraycopy" 5 ≤ 40 := by decide +kernel
  have h13 : ((r.map (z_cv g.2.2)).map fun v => v.category).sum + (nativeFrameWords "java/lang/System" "arraycopy" 5 + 11) ≤ R.locals := by
    rw [z_sum]
    have := hroom.2.1
    omega
  refine va_copyi C.1.1 C.1.2.1 (C.1.2.2.1.trans hl'.1.symm) C.1.2.2.2.1 (hts _ hl) (hts _ hna) (hts _ hst) (hts _ hini) C.2.1 hP (z_D hn C.2.2.1 C.2.2.2.1) hS a b 0 0 (z_cw_at ha) (z_cw_at hb) (ty := .int) rfl rfl rfl h1 h2 h3 h4 h5 (fun _ _ => rfl) (by have := hroom.1; omega) h13 hd (fun H1 locs1 hP1 _ hS1 => ?_)
  refine k (by rw [List.length_set]; exact hn) p l e R s m args below meth c g A kc ks H1 locs1 ls Q C ?_ hS1 hl' hR
  rw [← z_cw_set]
  exact hP1
end z_cl
def z_args : Nat → List z_V → List (Nat × z_V)
  | _, [] => []
  | i, v :: vs => (i, v) :: z_args (i + 1) vs
theorem z_args_eq (g : z_G) : ∀ (as : List z_V) (i : Nat), lv_args i (as.map (z_cv g.2.2)) = z_cL g (z_args i as)
  | [], _ => rfl
  | v :: vs, i => by
    show (i, z_cv g.2.2 v) :: lv_args (if (z_cv g.2.2 v).category = 2 then i + 2 else i + 1) (vs.map (z_cv g.2.2)) = (i, z_cv g.2.2 v) :: z_cL g (z_args (i + 1) vs)
    rw [z_cv_cat, if_neg (by decide), z_args_eq g vs (i + 1)]
theorem z_sl_len (g : z_G) (as : List z_V) : (lg_sl (as.map (z_cv g.2.2))).length = as.length := by
  induction as with
  | nil => rfl
  | cons v vs ih =>
    have e : lg_sl ((v :: vs).map (z_cv g.2.2)) = (if (z_cv g.2.2 v).category = 2 then [Slot.val (z_cv g.2.2 v), .second] else [Slot.val (z_cv g.2.2 v)]) ++ lg_sl (vs.map (z_cv g.2.2)) := rfl
    rw [e, z_cv_cat, if_neg (by decide), List.length_append, ih]
    simp only [List.length_cons, List.length_nil]
    omega
def z_nar (ret : Option FieldType) : Option z_V → Prop
  | none => ret = none
  | some (.inl x) => ∃ ty, ret = some ty ∧ narrow ty (.int x) = .int x
  | some (.inr _) => ∃ n, ret = some (.object n)
theorem z_Ev_of {d nh : Nat} {y : MethodName} {cc : ByteArray} {nL : Nat} {ret : Option FieldType} {as : List z_V} {h : List z_C} {Z : Option z_V → List z_C → Prop} (hy : plainName y.cls = true) (hlen : as.length ≤ nL)
    (k : z_Run d nh y.cls cc nL none (fun v h' => z_nar ret v ∧ Z v h') 0 (z_args 0 as) [] h) : z_Ev d nh y cc nL ret as h Z := by
  intro hn l g hi
  refine Met.ofW (cc := cc) (maxL := nL) (ret := ret) hy rfl ?_
  intro p e s m args below meth c s₁ B hml hv
  obtain ⟨rfl, hP, hK, hlit⟩ := hv
  have hts := atoms_spec (ws := Jvm.Cond.code y cc nL ret :: ALL) B.pre
  have hown : s.vm.findClass y.cls = some m.cls := findClass_of_methodNamed B.named
  have hl := lv_entry (as.map (z_cv g.2.2)) (n := nL) (by rw [z_sl_len]; exact hlen)
  rw [z_args_eq] at hl
  rw [lg_entry_eq]
  have hlocks := B.notSynchronized
  refine k hn p l e (z_rm d) s m _ below meth c g (z_A g nh) 0 0 s.heap [] _ _ ⟨⟨B.exec, B.bytes, hml, hown, fun w hw => hts w (List.mem_cons_of_mem _ hw)⟩, hK, hi, fun _ h => h, hlit, (fun q hq => by cases hq), Nat.le_refl _, Nat.le_refl _, Nat.le_refl _, Nat.le_refl _⟩ hP va_S.rf hl ?_
  intro v h' H' locs' pc' ls' hZ hl' hP' hS' hret
  obtain ⟨hnar, hZ⟩ := hZ
  rcases v with _ | (x | q)
  · have hr0 : ret = none := hnar
    exact W.vret B.exec B.bytes (B.returns.trans hr0) (fun t ht hW => ⟨⟨none, h', rfl, hZ, hl', by rw [ht]; exact hP'⟩, hS'.F ht⟩) hS'.2.2 hret
  · obtain ⟨ty, hr0, hnr⟩ := hnar
    exact W.zret B.exec B.bytes (B.returns.trans hr0) hnr (fun t ht hW => ⟨⟨some (.inl x), h', rfl, hZ, hl', by rw [ht]; exact hP'⟩, hS'.F ht⟩) hS'.2.2 hret
  · obtain ⟨n, hr0⟩ := hnar
    refine W.aret B.exec B.bytes (B.returns.trans hr0) (Or.inl ⟨n, rfl⟩) (v := z_cv g.2.2 (.inr q)) ?_ (fun t ht hW => ⟨⟨some (.inr q), h', rfl, hZ, hl', by rw [ht]; exact hP'⟩, hS'.F ht⟩) hS'.2.2 hret
    cases q with
    | none => exact Or.inl rfl
    | some a => exact Or.inr ⟨_, rfl⟩
