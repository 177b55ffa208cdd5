/-! CONSTRUCTORS: a body with one local (this), over a world of cells whose addresses come with them -/
def k_ty (ci : z_I) : List (ClassId × FieldType) := [(ci.1, .int), (ci.2.1, .boolean), (ci.2.2, .array .int)]
def k_nl : List (String × Nat × MethodName × String) := [(RX7, 9, yX6_init, RX7), (RX7, 18, yX0_init, RX7), (RX7, 31, yX1_init, RX7), (RX7, 41, yX2_init, RX7), (RX7, 51, yX4_init, RX7), (RX7, 58, yX3_init, RX7), (RX7, 65, yX5_init, RX7)]
def k_nst (U : State) : Prop := (∀ q ∈ k_nl, va_Nw (.methodLinkNest q.1 q.2.1 q.2.2.1 q.2.2.2) U) ∧ (Cond.arrayOver (.array .int)).before #[] U = true
theorem k_nst.aO {U : State} (h : k_nst U) (a : Array Value) : (Cond.arrayOver (.array .int)).before a U = true := over_moved (Vm.Alike.refl U.vm) h.2
theorem k_nst.warm {s U : State} (h : k_nst s) (hW : s.WarmedH U.vm) : k_nst U := ⟨fun z hz => (h.1 z hz).warmM hW, over_moved hW.alike h.2⟩
theorem k_nst.same {s U : State} (h : k_nst s) (hv : s.vm = U.vm) : k_nst U := ⟨fun z hz => va_Nw.same rfl hv (h.1 z hz), over_moved (by rw [hv]; exact Vm.Alike.refl U.vm) h.2⟩
def k_W (D : va_G) (A : Nat → Prop) (s : State) (H : Heap) (locs : List Loc) (ws : va_W) : Prop := va_P D vwCl ws H ∧ va_D A ws ∧ va_S A s.heap H locs
def k_Cx (d mc ms : Nat) (own : String) (cc : ByteArray) (D : va_G) (ci : z_I) (p : Program) (R : Room) (s : State) (m : MethodId) (args : Array Value) (c : Code) (meth : Method) (A : Nat → Prop) : Prop :=
  CallFix p m c cc 1 s args ALL own ∧ meth.name = "<init>" ∧ va_K D vwCl (k_ty ci) s ∧ (∀ q, s.heap.size ≤ q → A q) ∧ k_nst s ∧ (d ≤ R.frames ∧ 64 * d ≤ R.locals ∧ mc ≤ R.cells ∧ ms ≤ R.slots)
/-- from pc, with this stack and world, the constructor comes to its return with a world that has Z -/
def k_Go (d mc ms : Nat) (own : String) (cc : ByteArray) (D : va_G) (ci : z_I) (Z : va_W → Prop) (h0 pc : Nat) (st : List Value) (kc ks : Nat) (ws : va_W) : Prop :=
  ∀ (p : Program) (l : Launch) (e : Env) (R : Room) (s : State) (m : MethodId) (args : Array Value) (below : List Frame) (meth : Method) (c : Code) (A : Nat → Prop) (H : Heap) (locs : List Loc) (ls : Array Slot) (Q : State → Prop),
    k_Cx d mc ms own cc D ci p R s m args c meth A → k_W D A s H locs ws → lv_has ls 1 [(0, .ref h0)] →
    (∀ (w : va_W) (H' : Heap) (locs' : List Loc) (pc' kc' ks' : Nat), Z w → k_W D A s H' locs' w → decode cc pc' = .ok (.return_, 1) → kc' ≤ mc → ks' ≤ ms → W p l e R s m args below meth c H' locs' kc' ks' Q (F0 m pc' ls [])) →
    W p l e R s m args below meth c H locs kc ks Q (F0 m pc ls st)
def k_pre (D : va_G) (ci : z_I) (h0 : Nat) (e0 : va_E) (sz : Nat) (U : State) : Prop := U.heap.size = sz ∧ va_P D vwCl [(h0, e0)] U.heap ∧ va_K D vwCl (k_ty ci) U ∧ va_D (fun _ => True) [(h0, e0)] ∧ k_nst U
/-- a constructor's contract: from the new cell alone to a world that has Out -/
def k_Met (d mc ms : Nat) (y : MethodName) (cc : ByteArray) (e0 : va_E) (Out : z_I → Nat → va_W → Prop) : Prop :=
  ∀ (l : Launch) (D : va_G) (ci : z_I) (h0 sz : Nat), Met l y (Jvm.Cond.code y cc 1 none :: ALL) { frames := d, cells := mc, slots := ms, locals := 64 * d } (va_Pc [.ref h0] (k_pre D ci h0 e0 sz)) (va_Qv (Out ci h0) (fun (w : va_W) (t : State) => va_P D vwCl w t.heap ∧ va_K D vwCl (k_ty ci) t ∧ va_D (va_A [(h0, e0)] sz) w) (va_A [(h0, e0)] sz)) mc ms (va_A [(h0, e0)] sz)
theorem k_body {d mc ms : Nat} {y : MethodName} {cc : ByteArray} {e0 : va_E} {Out : z_I → Nat → va_W → Prop} (hy : plainName y.cls = true) (hn : y.name = "<init>") (k : ∀ (D : va_G) (ci : z_I) (h0 : Nat), k_Go d mc ms y.cls cc D ci (Out ci h0) h0 0 [] 0 0 [(h0, e0)]) : k_Met d mc ms y cc e0 Out := by
  intro l D ci h0 sz
  refine Met.ofW (cc := cc) (maxL := 1) (ret := none) hy rfl ?_
  intro p e s m args below meth c s₁ B hml hv
  obtain ⟨rfl, hsz, hP, hK, hD0, hN⟩ := hv
  have hts := atoms_spec (ws := Jvm.Cond.code y cc 1 none :: ALL) B.pre
  have hown : s.vm.findClass y.cls = some m.cls := findClass_of_methodNamed B.named
  have hin : meth.name = "<init>" := (name_of_methodNamed B.named B.method).1.trans hn
  have hlocks := B.notSynchronized
  have hl := lv_entry ([.ref h0]) (n := 1) (Nat.le_of_ble_eq_true rfl)
  rw [lg_entry_eq]
  have hD := hD0.self (sz := sz)
  subst hsz
  refine k D ci h0 p l e { frames := d, cells := mc, slots := ms, locals := 64 * d } s m _ below meth c (va_A [(h0, e0)] s.heap.size) s.heap [] _ _ ⟨⟨B.exec, B.bytes, hml, hown, fun w hw => hts w (List.mem_cons_of_mem _ hw)⟩, hin, hK, fun q h => Or.inr h, hN, Nat.le_refl _, Nat.le_refl _, Nat.le_refl _, Nat.le_refl _⟩ ⟨hP, hD, va_S.rf⟩ hl ?_
  intro w H' locs' pc' kc' ks' hZ hW' hd hkc hks
  refine W.widen hkc hks ?_
  exact W.vret B.exec B.bytes B.returns (fun t ht hWm => ⟨⟨w, rfl, hZ, by rw [ht]; exact hW'.1, va_K.moved hWm.alike hK, hW'.2.1⟩, hW'.2.2.F ht⟩) hW'.2.2.2.2 hd
theorem k_o1 : Jvm.Cond.instanceMethod objectInit ∈ ALL := mem_ALL (i := 74) rfl rfl
theorem k_o2 : Jvm.Cond.code objectInit ⟨#[0xb1]⟩ 1 none ∈ ALL := mem_ALL (i := 75) rfl rfl
theorem k_aI : Jvm.Cond.arrayClass .int ∈ ALL := mem_ALL (i := 102) rfl rfl
theorem k_aZ : Jvm.Cond.arrayClass .boolean ∈ ALL := mem_ALL (i := 186) rfl rfl
theorem k_tyI {D : va_G} {ci : z_I} {cA : ClassId} {s : State} (h : va_K D vwCl (k_ty ci ++ [(cA, .int)]) s) : cA = ci.1 := Option.some.inj ((h.2 3 (cA, .int) rfl).2.symm.trans (h.2 0 (ci.1, .int) rfl).2)
theorem k_tyZ {D : va_G} {ci : z_I} {cA : ClassId} {s : State} (h : va_K D vwCl (k_ty ci ++ [(cA, .boolean)]) s) : cA = ci.2.1 := Option.some.inj ((h.2 3 (cA, .boolean) rfl).2.symm.trans (h.2 1 (ci.2.1, .boolean) rfl).2)
section k_r
variable {d mc ms : Nat} {own : String} {cc : ByteArray} {D : va_G} {ci : z_I} {Z : va_W → Prop} {h0 pc : Nat} {st : List Value} {kc ks : Nat} {ws : va_W}
theorem k_al (hd : decode cc pc = .ok (.aload_n 0, 1)) (k : k_Go d mc ms own cc D ci Z h0 (pc + 1) (.ref h0 :: st) kc ks ws) : k_Go d mc ms own cc D ci Z h0 pc st kc ks ws := by
  intro p l e R s m args below meth c A H locs ls Q C hW hl hR
  exact lv_aload_n C.1.1 C.1.2.1 hd rfl (lv_at hl 0 rfl) (k p l e R s m args below meth c A H locs ls Q C hW hl hR)
theorem k_ic {n : Int} {v : Int32} (hd : decode cc pc = .ok (.iconst n, 1)) (hv : Int32.ofInt n = v) (k : k_Go d mc ms own cc D ci Z h0 (pc + 1) (.int v :: st) kc ks ws) : k_Go d mc ms own cc D ci Z h0 pc st kc ks ws := by
  intro p l e R s m args below meth c A H locs ls Q C hW hl hR
  exact lv_iconst C.1.1 C.1.2.1 hd hv (k p l e R s m args below meth c A H locs ls Q C hW hl hR)
theorem k_bp {n : Int} {v : Int32} (hd : decode cc pc = .ok (.bipush n, 2)) (hv : (Int8.ofInt n).toInt32 = v) (k : k_Go d mc ms own cc D ci Z h0 (pc + 2) (.int v :: st) kc ks ws) : k_Go d mc ms own cc D ci Z h0 pc st kc ks ws := by
  intro p l e R s m args below meth c A H locs ls Q C hW hl hR
  exact lv_bipush C.1.1 C.1.2.1 hd hv (k p l e R s m args below meth c A H locs ls Q C hW hl hR)
theorem k_du {x : Nat} (hd : decode cc pc = .ok (.dup, 1)) (k : k_Go d mc ms own cc D ci Z h0 (pc + 1) (.ref x :: .ref x :: st) kc ks ws) : k_Go d mc ms own cc D ci Z h0 pc (.ref x :: st) kc ks ws := by
  intro p l e R s m args below meth c A H locs ls Q C hW hl hR
  exact lv_dup C.1.1 C.1.2.1 hd rfl (k p l e R s m args below meth c A H locs ls Q C hW hl hR)
theorem k_oi {idx : Nat} (hd : decode cc pc = .ok (.invokespecial idx, 3)) (hlk : Jvm.Cond.methodLink own idx objectInit ∈ ALL) (k : k_Go (d + 1) mc ms own cc D ci Z h0 (pc + 3) [] kc ks ws) : k_Go (d + 1) mc ms own cc D ci Z h0 pc [.ref h0] kc ks ws := by
  intro p l e R s m args below meth c A H locs ls Q C hW hl hR
  have hts := C.1.2.2.2.2
  have hroom := C.2.2.2.2.2
  have h8 : 2 * (F0 m pc ls [.ref h0]).monitorRoom + (([] : List Value).map fun v => v.category).sum ≤ 8 := lv_room (by decide)
  refine W.objInit C.1.1 C.1.2.1 C.1.2.2.2.1 (hts _ hlk) (hts _ k_o1) (hts _ k_o2) rfl (hl.1.trans C.1.2.2.1.symm) rfl hd (by have := hroom.1; omega) (by have := hroom.2.1; omega) ?_
  refine W.eq (g2 := F0 m (pc + 3) ls []) rfl ?_
  exact k p l e R s m args below meth c A H locs ls Q C hW hl hR
theorem k_nI {n : Int32} {N : Nat} (hd : decode cc pc = .ok (.newarray .int, 2)) (hn : ¬ n < 0) (hN : n.toNatClampNeg = N) (hby : N * 4 ≤ 536870912) (h1 : kc + 1 ≤ mc) (h2 : ks + N ≤ ms) (k : ∀ q : Nat, k_Go d mc ms own cc D ci Z h0 (pc + 2) (.ref q :: st) (kc + 1) (ks + N) (ws ++ [(q, .inl (ci.1, N, .inl (fun _ => 0)))])) : k_Go d mc ms own cc D ci Z h0 pc (.int n :: st) kc ks ws := by
  intro p l e R s m args below meth c A H locs ls Q C hW hl hR
  have hroom := C.2.2.2.2.2
  refine va_newa C.1.1 C.1.2.1 (atype := .int) (C.1.2.2.2.2 _ k_aI) (ty := .int) rfl C.2.2.1 hW.1 hW.2.1 hW.2.2 C.2.2.2.1 (a0 := (N, .inl (fun _ => 0))) (fun cA => rfl) hn hN hby (Nat.le_trans h1 hroom.2.2.1) (Nat.le_trans h2 hroom.2.2.2) hd (fun q cA H1 hK1 hP1 hD1 hS1 => ?_)
  rw [k_tyI hK1] at hP1 hD1
  exact k q p l e R s m args below meth c A H1 locs ls Q C ⟨hP1, hD1, hS1⟩ hl hR
theorem k_nZ {n : Int32} {N : Nat} (hd : decode cc pc = .ok (.newarray .boolean, 2)) (hn : ¬ n < 0) (hN : n.toNatClampNeg = N) (hby : N * 1 ≤ 536870912) (h1 : kc + 1 ≤ mc) (h2 : ks + N ≤ ms) (k : ∀ q : Nat, k_Go d mc ms own cc D ci Z h0 (pc + 2) (.ref q :: st) (kc + 1) (ks + N) (ws ++ [(q, .inl (ci.2.1, N, .inl (fun _ => 0)))])) : k_Go d mc ms own cc D ci Z h0 pc (.int n :: st) kc ks ws := by
  intro p l e R s m args below meth c A H locs ls Q C hW hl hR
  have hroom := C.2.2.2.2.2
  refine va_newa C.1.1 C.1.2.1 (atype := .boolean) (C.1.2.2.2.2 _ k_aZ) (ty := .boolean) rfl C.2.2.1 hW.1 hW.2.1 hW.2.2 C.2.2.2.1 (a0 := (N, .inl (fun _ => 0))) (fun cA => rfl) hn hN hby (Nat.le_trans h1 hroom.2.2.1) (Nat.le_trans h2 hroom.2.2.2) hd (fun q cA H1 hK1 hP1 hD1 hS1 => ?_)
  rw [k_tyZ hK1] at hP1 hD1
  exact k q p l e R s m args below meth c A H1 locs ls Q C ⟨hP1, hD1, hS1⟩ hl hR
theorem k_mn {idx : Nat} (hd : decode cc pc = .ok (.multianewarray idx 2, 4)) (hlk : Jvm.Cond.classLink own idx ("[" ++ (FieldType.array .int).toString) ∈ ALL) (h1 : kc + 6 ≤ mc) (h2 : ks + 65 ≤ ms) (k : ∀ q : Nat, k_Go d mc ms own cc D ci Z h0 (pc + 4) (.ref q :: st) (kc + 6) (ks + 65) (ws ++ k_rows ci.1 ci.2.2 q)) : k_Go d mc ms own cc D ci Z h0 pc (.int 12 :: .int 5 :: st) kc ks ws := by
  intro p l e R s m args below meth c A H locs ls Q C hW hl hR
  have hroom := C.2.2.2.2.2
  have hts := C.1.2.2.2.2
  have hK := C.2.2.1
  refine k_mna C.1.1 C.1.2.1 C.1.2.2.2.1 (hts _ hlk) (C.2.2.2.2.1.aO _) (hts _ k_aI) (hK.2 0 (ci.1, .int) rfl).2 (hK.2 2 (ci.2.2, .array .int) rfl).2 hW.1 hW.2.1 hW.2.2 C.2.2.2.1 (Nat.le_trans h1 hroom.2.2.1) (Nat.le_trans h2 hroom.2.2.2) hd (fun q H1 hP1 hD1 hS1 => ?_)
  exact k q p l e R s m args below meth c A H1 locs ls Q C ⟨hP1, hD1, hS1⟩ hl hR
theorem k_pq {idx cj kf N a x : Nat} {C0 : String} {T : u_T} {fs : List Value} {ty : FieldType} (q0 : Nat) (hd : decode cc pc = .ok (.putfield idx, 3)) (hc : z_K cj C0 T N) (hk : kf < N) (hlink : Jvm.Cond.fieldLink own idx (T kf).1 (T kf).2.1 (T kf).2.2.1 ∈ ALL) (hfin : (T kf).2.2.2 = true) (hdecl : (T kf).1 = own) (hpd : parseFieldDescriptor (T kf).2.2.1 = some ty) (hnr : narrow ty (.ref x) = .ref x) (hft : fits ty (.ref x) = true) (hlen : kf < fs.length) (he : ws[q0]? = some (a, .inr (cj, fs))) (k : k_Go d mc ms own cc D ci Z h0 (pc + 3) st kc ks (ws.set q0 (a, .inr (cj, fs.set kf (.ref x))))) : k_Go d mc ms own cc D ci Z h0 pc (.ref x :: .ref a :: st) kc ks ws := by
  intro p l e R s m args below meth c A H locs ls Q C hW hl hR
  obtain ⟨ty0, hty⟩ := hc.2.2.1
  exact va_putF C.1.1 C.1.2.1 C.1.2.2.2.2 hc.2.1 ty0 hty hc.2.2.2 C.1.2.2.2.1 C.2.2.1 hW.1 hW.2.1 hW.2.2 q0 he hc.1 kf hk (C.1.2.2.2.2 _ hlink) (fun _ h => h) hfin C.2.1 hdecl hpd hnr hft hlen hd (fun H1 locs1 hP1 hD1 hS1 => k p l e R s m args below meth c A H1 locs1 ls Q C ⟨hP1, hD1, hS1⟩ hl hR)
theorem k_pi {idx cj kf N a : Nat} {x : Int32} {C0 : String} {T : u_T} {fs : List Value} {ty : FieldType} (q0 : Nat) (hd : decode cc pc = .ok (.putfield idx, 3)) (hc : z_K cj C0 T N) (hk : kf < N) (hlink : Jvm.Cond.fieldLink own idx (T kf).1 (T kf).2.1 (T kf).2.2.1 ∈ ALL) (hfin : (T kf).2.2.2 = false) (hpd : parseFieldDescriptor (T kf).2.2.1 = some ty) (hnr : narrow ty (.int x) = .int x) (hft : fits ty (.int x) = true) (hlen : kf < fs.length) (he : ws[q0]? = some (a, .inr (cj, fs))) (k : k_Go d mc ms own cc D ci Z h0 (pc + 3) st kc ks (ws.set q0 (a, .inr (cj, fs.set kf (.int x))))) : k_Go d mc ms own cc D ci Z h0 pc (.int x :: .ref a :: st) kc ks ws := by
  intro p l e R s m args below meth c A H locs ls Q C hW hl hR
  obtain ⟨ty0, hty⟩ := hc.2.2.1
  exact va_put C.1.1 C.1.2.1 C.1.2.2.2.2 hc.2.1 ty0 hty hc.2.2.2 C.1.2.2.2.1 C.2.2.1 hW.1 hW.2.1 hW.2.2 q0 he hc.1 kf hk (C.1.2.2.2.2 _ hlink) (fun _ h => h) hfin hpd hnr hft hlen hd (fun H1 locs1 hP1 hD1 hS1 => k p l e R s m args below meth c A H1 locs1 ls Q C ⟨hP1, hD1, hS1⟩ hl hR)
theorem k_gq {idx cj kf N a x : Nat} {C0 : String} {T : u_T} {fs : List Value} (q0 : Nat) (hd : decode cc pc = .ok (.getfield idx, 3)) (hc : z_K cj C0 T N) (hk : kf < N) (hlink : Jvm.Cond.fieldLink own idx (T kf).1 (T kf).2.1 (T kf).2.2.1 ∈ ALL) (he : ws[q0]? = some (a, .inr (cj, fs))) (hv : fs[kf]? = some (.ref x)) (k : k_Go d mc ms own cc D ci Z h0 (pc + 3) (.ref x :: st) kc ks ws) : k_Go d mc ms own cc D ci Z h0 pc (.ref a :: st) kc ks ws := by
  intro p l e R s m args below meth c A H locs ls Q C hW hl hR
  exact va_get C.1.1 C.1.2.1 C.1.2.2.2.2 hc.2.1 C.1.2.2.2.1 C.2.2.1 hW.1 q0 he hc.1 kf hk (C.1.2.2.2.2 _ hlink) (fun _ h => h) hv hd (k p l e R s m args below meth c A H locs ls Q C hW hl hR)
theorem k_ia {a n : Nat} {f : Nat → Int32} {i x : Int32} (q0 : Nat) (hd : decode cc pc = .ok (.iastore, 1)) (he : ws[q0]? = some (a, .inl (ci.1, n, .inl f))) (hin : vp_in i n) (k : k_Go d mc ms own cc D ci Z h0 (pc + 1) st kc ks (ws.set q0 (a, .inl (ci.1, n, .inl (upd f i.toNatClampNeg x))))) : k_Go d mc ms own cc D ci Z h0 pc (.int x :: .int i :: .ref a :: st) kc ks ws := by
  intro p l e R s m args below meth c A H locs ls Q C hW hl hR
  exact va_iast C.1.1 C.1.2.1 C.2.2.1 hW.1 hW.2.1 hW.2.2 q0 0 he rfl hin hd (fun H1 locs1 hP1 hD1 hS1 => k p l e R s m args below meth c A H1 locs1 ls Q C ⟨hP1, hD1, hS1⟩ hl hR)
theorem k_new {idx cj N : Nat} {C0 : String} {T : u_T} {fs : List Value} {ty : Nat → FieldType} (hd : decode cc pc = .ok (.new idx, 3)) (hc : z_K cj C0 T N) (hty : ∀ k, k < N → parseFieldDescriptor (T k).2.2.1 = some (ty k)) (hcl : Jvm.Cond.classLink own idx C0 ∈ ALL) (hinst : Jvm.Cond.instantiable C0 N ∈ ALL) (hini : Jvm.Cond.initialized C0 ∈ ALL) (hfs : ∀ j, j < N → defaultValue (ty j) = vp_V fs j) (h1 : kc + 1 ≤ mc) (h2 : ks + N ≤ ms) (k : ∀ q : Nat, k_Go d mc ms own cc D ci Z h0 (pc + 3) (.ref q :: st) (kc + 1) (ks + N) (ws ++ [(q, .inr (cj, fs))])) : k_Go d mc ms own cc D ci Z h0 pc st kc ks ws := by
  intro p l e R s m args below meth c A H locs ls Q C hW hl hR
  have hroom := C.2.2.2.2.2
  have hts := C.1.2.2.2.2
  exact va_new C.1.1 C.1.2.1 hts hc.2.1 ty hty C.1.2.2.2.1 (hts _ hcl) (hts _ hinst) (hts _ hini) C.2.2.1 hW.1 hW.2.1 hW.2.2 C.2.2.2.1 hc.1 hfs (Nat.le_trans h1 hroom.2.2.1) (Nat.le_trans h2 hroom.2.2.2) hd (fun q H1 hP1 hD1 hS1 => k q p l e R s m args below meth c A H1 locs ls Q C ⟨hP1, hD1, hS1⟩ hl hR)
theorem k_blind {y0 : Nat} {e0 : va_E} {sz : Nat} : FrameBlind (va_Pc [.ref y0] (k_pre D ci y0 e0 sz)) := by
  intro a U g mk q
  obtain ⟨q0, q1, qP, qK, qD, qN⟩ := q
  exact ⟨q0, q1, qP, va_K.moved (u := U) (U := U.calling g mk a) (Vm.Alike.refl U.vm) qK, qD, qN.same rfl⟩
theorem k_call {idx mc' ms' b : Nat} {y : MethodName} {cc' : ByteArray} {e0 : va_E} {Out : z_I → Nat → va_W → Prop} {host : String} {wr : va_W} (i0 : Nat) (isR : List Nat) (hM : k_Met d mc' ms' y cc' e0 Out) (hd : decode cc pc = .ok (.invokespecial idx, 3)) (hnl : (own, idx, y, host) ∈ k_nl) (hcode : Jvm.Cond.code y cc' 1 none ∈ ALL) (hini : Jvm.Cond.initialized y.cls ∈ ALL) (hin : Jvm.Cond.instanceMethod y ∈ ALL) (hyn : y.name = "<init>")
    (hy : y.cls ≠ "java/lang/invoke/MethodHandle" ∧ y.cls ≠ "java/lang/invoke/VarHandle" ∧ (parseMethodDescriptor y.desc).map (fun d => d.parameters.length) = some 0) (hi : ws[i0]? = some (b, e0)) (hwr : isR.map (fun i => ws[i]?) = wr.map some) (hn : va_nd isR = true) (hdis : ∀ i ∈ isR, i ∉ [i0]) (h8 : (st.map fun v => v.category).sum ≤ 8) (h1 : kc + mc' ≤ mc) (h2 : ks + ms' ≤ ms)
    (k : ∀ w, Out ci b w → k_Go (d + 1) mc ms own cc D ci Z h0 (pc + 3) st (kc + mc') (ks + ms') (wr ++ w)) : k_Go (d + 1) mc ms own cc D ci Z h0 pc (.ref b :: st) kc ks ws := by
  intro p l e R s m args below meth c A H locs ls Q C hW hl hR
  have hts := C.1.2.2.2.2
  have hroom := C.2.2.2.2.2
  have hC : [i0].map (fun i => ws[i]?) = [(b, e0)].map some := by simp [hi]
  have hPc : va_P D vwCl [(b, e0)] H := hW.1.sub [i0] (by simp [hi])
  have hDc : va_D A [(b, e0)] := hW.2.1.sub [i0] (by simp [va_nd]) hC
  have hFc := va_free (wc := [(b, e0)]) hW.2.1 hW.2.2 C.2.2.2.1 [i0] hC
  refine va_callv (va_runIN (As := []) (rest := st) C.1 (hM l D ci b H.size) ⟨va_cnB 0 hts (good_in hcode) rfl rfl rfl (C.2.2.2.2.1.1 _ hnl) (hts _ hini) hy ⟨hroom.1, by show 8 + (1 + 11) + 64 * d ≤ R.locals; have := hroom.2.1; omega⟩, hyn, hts _ hin⟩ ⟨k_blind, fun U hU hWm => ⟨rfl, by rw [hU], by rw [hU]; exact hPc, va_K.moved hWm.alike C.2.2.1, hDc.weaken (fun _ _ _ _ => trivial), C.2.2.2.2.1.warm hWm⟩⟩ rfl rfl hl.1 rfl (lv_room h8) hd ⟨Nat.le_trans h1 hroom.2.2.1, Nat.le_trans h2 hroom.2.2.2⟩) hW.2.2 (fun q _ h => hFc q h) hFc (fun w t H1 locs1 ht hvm hw hB hz1 hk1 hS1 => ?_)
  obtain ⟨hP1, hK1, hD1⟩ := hB
  rw [ht] at hP1
  obtain ⟨hP2, hD2⟩ := va_join (wr := wr) (w1 := w) hW.1 hW.2.1 [i0] isR hC hwr hn hdis hk1 hFc hP1 hD1
  exact k w hw p l e R s m args below meth c A H1 locs1 ls Q C ⟨hP2, hD2, hS1⟩ hl hR
theorem k_re (hd : decode cc pc = .ok (.return_, 1)) (hZ : Z ws) (h1 : kc ≤ mc) (h2 : ks ≤ ms) : k_Go d mc ms own cc D ci Z h0 pc [] kc ks ws := by
  intro p l e R s m args below meth c A H locs ls Q C hW hl hR
  exact hR ws H locs pc kc ks hZ hW hd h1 h2
end k_r
