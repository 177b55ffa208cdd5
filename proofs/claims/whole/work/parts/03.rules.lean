/-! RULES: one an instruction, for z_Run, over the kit's rows -/
section z_rules
variable {d nh : Nat} {own : String} {cc : ByteArray} {nL : Nat} {scr : Option (Nat × (Nat → Int32))} {Z : Option z_V → List z_C → Prop} {pc : Nat} {L : List (Nat × z_V)} {r : List z_V} {h : List z_C}
theorem z_iconst {n : Int} (hd : decode cc pc = .ok (.iconst n, 1)) (k : z_Run d nh own cc nL scr Z (pc + 1) L (.inl (Int32.ofInt n) :: r) h) : z_Run d nh own cc nL scr Z pc L (r) h := by
  intro hn p l e R s m args below meth c g A kc ks H locs ls Q C hP hS hl hR
  exact lv_iconst C.1.1 C.1.2.1 hd rfl (k hn p l e R s m args below meth c g A kc ks H locs ls Q C hP hS hl hR)
theorem z_bipush {n : Int} (hd : decode cc pc = .ok (.bipush n, 2)) (k : z_Run d nh own cc nL scr Z (pc + 2) L (.inl (Int8.ofInt n).toInt32 :: r) h) : z_Run d nh own cc nL scr Z pc L (r) h := by
  intro hn p l e R s m args below meth c g A kc ks H locs ls Q C hP hS hl hR
  exact lv_bipush C.1.1 C.1.2.1 hd rfl (k hn p l e R s m args below meth c g A kc ks H locs ls Q C hP hS hl hR)
theorem z_sipush {n : Int} (hd : decode cc pc = .ok (.sipush n, 3)) (k : z_Run d nh own cc nL scr Z (pc + 3) L (.inl (Int16.ofInt n).toInt32 :: r) h) : z_Run d nh own cc nL scr Z pc L (r) h := by
  intro hn p l e R s m args below meth c g A kc ks H locs ls Q C hP hS hl hR
  exact lv_sipush C.1.1 C.1.2.1 hd rfl (k hn p l e R s m args below meth c g A kc ks H locs ls Q C hP hS hl hR)
theorem z_iadd {x y : Int32} (hd : decode cc pc = .ok (.iadd, 1)) (k : z_Run d nh own cc nL scr Z (pc + 1) L (.inl (x + y) :: r) h) : z_Run d nh own cc nL scr Z pc L (.inl y :: .inl x :: r) h := by
  intro hn p l e R s m args below meth c g A kc ks H locs ls Q C hP hS hl hR
  exact lv_iadd C.1.1 C.1.2.1 hd (k hn p l e R s m args below meth c g A kc ks H locs ls Q C hP hS hl hR)
theorem z_isub {x y : Int32} (hd : decode cc pc = .ok (.isub, 1)) (k : z_Run d nh own cc nL scr Z (pc + 1) L (.inl (x - y) :: r) h) : z_Run d nh own cc nL scr Z pc L (.inl y :: .inl x :: r) h := by
  intro hn p l e R s m args below meth c g A kc ks H locs ls Q C hP hS hl hR
  exact lv_isub C.1.1 C.1.2.1 hd (k hn p l e R s m args below meth c g A kc ks H locs ls Q C hP hS hl hR)
theorem z_imul {x y : Int32} (hd : decode cc pc = .ok (.imul, 1)) (k : z_Run d nh own cc nL scr Z (pc + 1) L (.inl (x * y) :: r) h) : z_Run d nh own cc nL scr Z pc L (.inl y :: .inl x :: r) h := by
  intro hn p l e R s m args below meth c g A kc ks H locs ls Q C hP hS hl hR
  exact lv_imul C.1.1 C.1.2.1 hd (k hn p l e R s m args below meth c g A kc ks H locs ls Q C hP hS hl hR)
theorem z_ishl {x y : Int32} (hd : decode cc pc = .ok (.ishl, 1)) (k : z_Run d nh own cc nL scr Z (pc + 1) L (.inl (x <<< (y &&& 31)) :: r) h) : z_Run d nh own cc nL scr Z pc L (.inl y :: .inl x :: r) h := by
  intro hn p l e R s m args below meth c g A kc ks H locs ls Q C hP hS hl hR
  exact lv_ishl C.1.1 C.1.2.1 hd (k hn p l e R s m args below meth c g A kc ks H locs ls Q C hP hS hl hR)
theorem z_ishr {x y : Int32} (hd : decode cc pc = .ok (.ishr, 1)) (k : z_Run d nh own cc nL scr Z (pc + 1) L (.inl (x >>> (y &&& 31)) :: r) h) : z_Run d nh own cc nL scr Z pc L (.inl y :: .inl x :: r) h := by
  intro hn p l e R s m args below meth c g A kc ks H locs ls Q C hP hS hl hR
  exact lv_ishr C.1.1 C.1.2.1 hd (k hn p l e R s m args below meth c g A kc ks H locs ls Q C hP hS hl hR)
theorem z_iand {x y : Int32} (hd : decode cc pc = .ok (.iand, 1)) (k : z_Run d nh own cc nL scr Z (pc + 1) L (.inl (x &&& y) :: r) h) : z_Run d nh own cc nL scr Z pc L (.inl y :: .inl x :: r) h := by
  intro hn p l e R s m args below meth c g A kc ks H locs ls Q C hP hS hl hR
  exact lv_iand C.1.1 C.1.2.1 hd (k hn p l e R s m args below meth c g A kc ks H locs ls Q C hP hS hl hR)
theorem z_ior {x y : Int32} (hd : decode cc pc = .ok (.ior, 1)) (k : z_Run d nh own cc nL scr Z (pc + 1) L (.inl (x ||| y) :: r) h) : z_Run d nh own cc nL scr Z pc L (.inl y :: .inl x :: r) h := by
  intro hn p l e R s m args below meth c g A kc ks H locs ls Q C hP hS hl hR
  exact lv_ior C.1.1 C.1.2.1 hd (k hn p l e R s m args below meth c g A kc ks H locs ls Q C hP hS hl hR)
theorem z_iushr {x y : Int32} (hd : decode cc pc = .ok (.iushr, 1)) (k : z_Run d nh own cc nL scr Z (pc + 1) L (.inl (x.toUInt32 >>> (y.toUInt32 &&& Int32.toUInt32 31)).toInt32 :: r) h) : z_Run d nh own cc nL scr Z pc L (.inl y :: .inl x :: r) h := by
  intro hn p l e R s m args below meth c g A kc ks H locs ls Q C hP hS hl hR
  exact lv_iushr C.1.1 C.1.2.1 hd rfl (k hn p l e R s m args below meth c g A kc ks H locs ls Q C hP hS hl hR)
theorem z_ineg {x : Int32} (hd : decode cc pc = .ok (.ineg, 1)) (k : z_Run d nh own cc nL scr Z (pc + 1) L (.inl (-x) :: r) h) : z_Run d nh own cc nL scr Z pc L (.inl x :: r) h := by
  intro hn p l e R s m args below meth c g A kc ks H locs ls Q C hP hS hl hR
  exact lv_ineg C.1.1 C.1.2.1 hd (k hn p l e R s m args below meth c g A kc ks H locs ls Q C hP hS hl hR)
theorem z_idiv {x y : Int32} (hd : decode cc pc = .ok (.idiv, 1)) (hy : ¬ y = 0) (k : z_Run d nh own cc nL scr Z (pc + 1) L (.inl (x / y) :: r) h) : z_Run d nh own cc nL scr Z pc L (.inl y :: .inl x :: r) h := by
  intro hn p l e R s m args below meth c g A kc ks H locs ls Q C hP hS hl hR
  exact lv_idiv C.1.1 C.1.2.1 hd hy (k hn p l e R s m args below meth c g A kc ks H locs ls Q C hP hS hl hR)
theorem z_irem {x y : Int32} (hd : decode cc pc = .ok (.irem, 1)) (hy : ¬ y = 0) (k : z_Run d nh own cc nL scr Z (pc + 1) L (.inl (x - x / y * y) :: r) h) : z_Run d nh own cc nL scr Z pc L (.inl y :: .inl x :: r) h := by
  intro hn p l e R s m args below meth c g A kc ks H locs ls Q C hP hS hl hR
  exact lv_irem C.1.1 C.1.2.1 hd hy (k hn p l e R s m args below meth c g A kc ks H locs ls Q C hP hS hl hR)
theorem z_dup {a : z_V} (hd : decode cc pc = .ok (.dup, 1)) (k : z_Run d nh own cc nL scr Z (pc + 1) L (a :: a :: r) h) : z_Run d nh own cc nL scr Z pc L (a :: r) h := by
  intro hn p l e R s m args below meth c g A kc ks H locs ls Q C hP hS hl hR
  exact lv_dup C.1.1 C.1.2.1 hd (z_cv_cat _ _) (k hn p l e R s m args below meth c g A kc ks H locs ls Q C hP hS hl hR)
theorem z_dup2 {a b : z_V} (hd : decode cc pc = .ok (.dup2, 1)) (k : z_Run d nh own cc nL scr Z (pc + 1) L (a :: b :: a :: b :: r) h) : z_Run d nh own cc nL scr Z pc L (a :: b :: r) h := by
  intro hn p l e R s m args below meth c g A kc ks H locs ls Q C hP hS hl hR
  exact lv_dup2_11 C.1.1 C.1.2.1 hd (z_cv_cat _ _) (z_cv_cat _ _) (k hn p l e R s m args below meth c g A kc ks H locs ls Q C hP hS hl hR)
theorem z_pop {a : z_V} (hd : decode cc pc = .ok (.pop, 1)) (k : z_Run d nh own cc nL scr Z (pc + 1) L (r) h) : z_Run d nh own cc nL scr Z pc L (a :: r) h := by
  intro hn p l e R s m args below meth c g A kc ks H locs ls Q C hP hS hl hR
  exact lv_pop C.1.1 C.1.2.1 hd (z_cv_cat _ _) (k hn p l e R s m args below meth c g A kc ks H locs ls Q C hP hS hl hR)
theorem z_iload_n {i : Fin 4} {x : Int32} (hd : decode cc pc = .ok (.iload_n i, 1)) (hg : z_get L i = some (.inl x)) (k : z_Run d nh own cc nL scr Z (pc + 1) L (.inl x :: r) h) : z_Run d nh own cc nL scr Z pc L (r) h := by
  intro hn p l e R s m args below meth c g A kc ks H locs ls Q C hP hS hl hR
  exact lv_iload_n C.1.1 C.1.2.1 hd rfl (z_get_ls hl hg) (k hn p l e R s m args below meth c g A kc ks H locs ls Q C hP hS hl hR)
theorem z_iload {i : Nat} {x : Int32} (hd : decode cc pc = .ok (.iload i, 2)) (hg : z_get L i = some (.inl x)) (k : z_Run d nh own cc nL scr Z (pc + 2) L (.inl x :: r) h) : z_Run d nh own cc nL scr Z pc L (r) h := by
  intro hn p l e R s m args below meth c g A kc ks H locs ls Q C hP hS hl hR
  exact lv_iload C.1.1 C.1.2.1 hd (z_get_ls hl hg) (k hn p l e R s m args below meth c g A kc ks H locs ls Q C hP hS hl hR)
theorem z_aload_n {i : Fin 4} {x : Nat} (hd : decode cc pc = .ok (.aload_n i, 1)) (hg : z_get L i = some (.inr (some x))) (k : z_Run d nh own cc nL scr Z (pc + 1) L (.inr (some x) :: r) h) : z_Run d nh own cc nL scr Z pc L (r) h := by
  intro hn p l e R s m args below meth c g A kc ks H locs ls Q C hP hS hl hR
  exact lv_aload_n C.1.1 C.1.2.1 hd rfl (z_get_ls hl hg) (k hn p l e R s m args below meth c g A kc ks H locs ls Q C hP hS hl hR)
theorem z_aload {i : Nat} {x : Nat} (hd : decode cc pc = .ok (.aload i, 2)) (hg : z_get L i = some (.inr (some x))) (k : z_Run d nh own cc nL scr Z (pc + 2) L (.inr (some x) :: r) h) : z_Run d nh own cc nL scr Z pc L (r) h := by
  intro hn p l e R s m args below meth c g A kc ks H locs ls Q C hP hS hl hR
  exact lv_aload C.1.1 C.1.2.1 hd (z_get_ls hl hg) (k hn p l e R s m args below meth c g A kc ks H locs ls Q C hP hS hl hR)
theorem z_istore_n {i : Fin 4} {x : Int32} (hd : decode cc pc = .ok (.istore_n i, 1)) (hi : (i : Nat) < nL) (k : z_Run d nh own cc nL scr Z (pc + 1) (z_set L i (.inl x)) r h) : z_Run d nh own cc nL scr Z pc L (.inl x :: r) h := by
  intro hn p l e R s m args below meth c g A kc ks H locs ls Q C hP hS hl hR
  exact lv_istore_n C.1.1 C.1.2.1 hd rfl hl hi rfl (fun ls hl0 => by
    have hl := z_has_set (v := .inl x) hl0
    exact (k hn p l e R s m args below meth c g A kc ks H locs ls Q C hP hS hl hR))
theorem z_istore {i : Nat} {x : Int32} (hd : decode cc pc = .ok (.istore i, 2)) (hi : (i : Nat) < nL) (k : z_Run d nh own cc nL scr Z (pc + 2) (z_set L i (.inl x)) r h) : z_Run d nh own cc nL scr Z pc L (.inl x :: r) h := by
  intro hn p l e R s m args below meth c g A kc ks H locs ls Q C hP hS hl hR
  exact lv_istore C.1.1 C.1.2.1 hd hl hi rfl (fun ls hl0 => by
    have hl := z_has_set (v := .inl x) hl0
    exact (k hn p l e R s m args below meth c g A kc ks H locs ls Q C hP hS hl hR))
theorem z_astore_n {i : Fin 4} {x : Nat} (hd : decode cc pc = .ok (.astore_n i, 1)) (hi : (i : Nat) < nL) (k : z_Run d nh own cc nL scr Z (pc + 1) (z_set L i (.inr (some x))) r h) : z_Run d nh own cc nL scr Z pc L (.inr (some x) :: r) h := by
  intro hn p l e R s m args below meth c g A kc ks H locs ls Q C hP hS hl hR
  exact lv_astore_n C.1.1 C.1.2.1 hd rfl hl hi rfl (fun ls hl0 => by
    have hl := z_has_set (v := .inr (some x)) hl0
    exact (k hn p l e R s m args below meth c g A kc ks H locs ls Q C hP hS hl hR))
theorem z_astore {i : Nat} {x : Nat} (hd : decode cc pc = .ok (.astore i, 2)) (hi : (i : Nat) < nL) (k : z_Run d nh own cc nL scr Z (pc + 2) (z_set L i (.inr (some x))) r h) : z_Run d nh own cc nL scr Z pc L (.inr (some x) :: r) h := by
  intro hn p l e R s m args below meth c g A kc ks H locs ls Q C hP hS hl hR
  exact lv_astore C.1.1 C.1.2.1 hd hl hi rfl (fun ls hl0 => by
    have hl := z_has_set (v := .inr (some x)) hl0
    exact (k hn p l e R s m args below meth c g A kc ks H locs ls Q C hP hS hl hR))
theorem z_iinc {i : Nat} {n : Int} {x : Int32} (hd : decode cc pc = .ok (.iinc i n, 3)) (hi : i < nL) (hg : z_get L i = some (.inl x)) (k : z_Run d nh own cc nL scr Z (pc + 3) (z_set L i (.inl (x + Int32.ofInt n))) r h) : z_Run d nh own cc nL scr Z pc L r h := by
  intro hn p l e R s m args below meth c g A kc ks H locs ls Q C hP hS hl hR
  obtain ⟨q, hq⟩ := List.getElem?_of_mem (List.mem_map.mpr ⟨(i, .inl x), z_get_mem hg, rfl⟩ : (i, z_cv g.2.2 (.inl x)) ∈ z_cL g L)
  exact lv_iinc C.1.1 C.1.2.1 hd hl hq rfl hi rfl (fun ls hl0 => by
    have hl := z_has_set (v := .inl (x + Int32.ofInt n)) hl0
    exact (k hn p l e R s m args below meth c g A kc ks H locs ls Q C hP hS hl hR))
theorem z_icmp_eq {x y : Int32} {off : Int} {tgt : Nat} (hd : decode cc pc = .ok (.if_icmp .eq off, 3)) (ht : (pc : Int) + off = (tgt : Int)) (kt : x = y → z_Run d nh own cc nL scr Z tgt L r h) (kf : ¬ x = y → z_Run d nh own cc nL scr Z (pc + 3) L r h) : z_Run d nh own cc nL scr Z pc L (.inl y :: .inl x :: r) h := by
  intro hn p l e R s m args below meth c g A kc ks H locs ls Q C hP hS hl hR
  exact lv_icmp_eq C.1.1 C.1.2.1 hd ht (fun q => (kt q hn p l e R s m args below meth c g A kc ks H locs ls Q C hP hS hl hR)) (fun q => (kf q hn p l e R s m args below meth c g A kc ks H locs ls Q C hP hS hl hR))
theorem z_if_eq {x : Int32} {off : Int} {tgt : Nat} (hd : decode cc pc = .ok (.ifCond .eq off, 3)) (ht : (pc : Int) + off = (tgt : Int)) (kt : x = 0 → z_Run d nh own cc nL scr Z tgt L r h) (kf : ¬ x = 0 → z_Run d nh own cc nL scr Z (pc + 3) L r h) : z_Run d nh own cc nL scr Z pc L (.inl x :: r) h := by
  intro hn p l e R s m args below meth c g A kc ks H locs ls Q C hP hS hl hR
  exact lv_if_eq C.1.1 C.1.2.1 hd ht (fun q => (kt q hn p l e R s m args below meth c g A kc ks H locs ls Q C hP hS hl hR)) (fun q => (kf q hn p l e R s m args below meth c g A kc ks H locs ls Q C hP hS hl hR))
theorem z_icmp_ne {x y : Int32} {off : Int} {tgt : Nat} (hd : decode cc pc = .ok (.if_icmp .ne off, 3)) (ht : (pc : Int) + off = (tgt : Int)) (kt : ¬ x = y → z_Run d nh own cc nL scr Z tgt L r h) (kf : x = y → z_Run d nh own cc nL scr Z (pc + 3) L r h) : z_Run d nh own cc nL scr Z pc L (.inl y :: .inl x :: r) h := by
  intro hn p l e R s m args below meth c g A kc ks H locs ls Q C hP hS hl hR
  exact lv_icmp_ne C.1.1 C.1.2.1 hd ht (fun q => (kt q hn p l e R s m args below meth c g A kc ks H locs ls Q C hP hS hl hR)) (fun q => (kf q hn p l e R s m args below meth c g A kc ks H locs ls Q C hP hS hl hR))
theorem z_if_ne {x : Int32} {off : Int} {tgt : Nat} (hd : decode cc pc = .ok (.ifCond .ne off, 3)) (ht : (pc : Int) + off = (tgt : Int)) (kt : ¬ x = 0 → z_Run d nh own cc nL scr Z tgt L r h) (kf : x = 0 → z_Run d nh own cc nL scr Z (pc + 3) L r h) : z_Run d nh own cc nL scr Z pc L (.inl x :: r) h := by
  intro hn p l e R s m args below meth c g A kc ks H locs ls Q C hP hS hl hR
  exact lv_if_ne C.1.1 C.1.2.1 hd ht (fun q => (kt q hn p l e R s m args below meth c g A kc ks H locs ls Q C hP hS hl hR)) (fun q => (kf q hn p l e R s m args below meth c g A kc ks H locs ls Q C hP hS hl hR))
theorem z_icmp_lt {x y : Int32} {off : Int} {tgt : Nat} (hd : decode cc pc = .ok (.if_icmp .lt off, 3)) (ht : (pc : Int) + off = (tgt : Int)) (kt : x < y → z_Run d nh own cc nL scr Z tgt L r h) (kf : ¬ x < y → z_Run d nh own cc nL scr Z (pc + 3) L r h) : z_Run d nh own cc nL scr Z pc L (.inl y :: .inl x :: r) h := by
  intro hn p l e R s m args below meth c g A kc ks H locs ls Q C hP hS hl hR
  exact lv_icmp_lt C.1.1 C.1.2.1 hd ht (fun q => (kt q hn p l e R s m args below meth c g A kc ks H locs ls Q C hP hS hl hR)) (fun q => (kf q hn p l e R s m args below meth c g A kc ks H locs ls Q C hP hS hl hR))
theorem z_if_lt {x : Int32} {off : Int} {tgt : Nat} (hd : decode cc pc = .ok (.ifCond .lt off, 3)) (ht : (pc : Int) + off = (tgt : Int)) (kt : x < 0 → z_Run d nh own cc nL scr Z tgt L r h) (kf : ¬ x < 0 → z_Run d nh own cc nL scr Z (pc + 3) L r h) : z_Run d nh own cc nL scr Z pc L (.inl x :: r) h := by
  intro hn p l e R s m args below meth c g A kc ks H locs ls Q C hP hS hl hR
  exact lv_if_lt C.1.1 C.1.2.1 hd ht (fun q => (kt q hn p l e R s m args below meth c g A kc ks H locs ls Q C hP hS hl hR)) (fun q => (kf q hn p l e R s m args below meth c g A kc ks H locs ls Q C hP hS hl hR))
theorem z_icmp_ge {x y : Int32} {off : Int} {tgt : Nat} (hd : decode cc pc = .ok (.if_icmp .ge off, 3)) (ht : (pc : Int) + off = (tgt : Int)) (kt : y ≤ x → z_Run d nh own cc nL scr Z tgt L r h) (kf : ¬ y ≤ x → z_Run d nh own cc nL scr Z (pc + 3) L r h) : z_Run d nh own cc nL scr Z pc L (.inl y :: .inl x :: r) h := by
  intro hn p l e R s m args below meth c g A kc ks H locs ls Q C hP hS hl hR
  exact lv_icmp_ge C.1.1 C.1.2.1 hd ht (fun q => (kt q hn p l e R s m args below meth c g A kc ks H locs ls Q C hP hS hl hR)) (fun q => (kf q hn p l e R s m args below meth c g A kc ks H locs ls Q C hP hS hl hR))
theorem z_if_ge {x : Int32} {off : Int} {tgt : Nat} (hd : decode cc pc = .ok (.ifCond .ge off, 3)) (ht : (pc : Int) + off = (tgt : Int)) (kt : 0 ≤ x → z_Run d nh own cc nL scr Z tgt L r h) (kf : ¬ 0 ≤ x → z_Run d nh own cc nL scr Z (pc + 3) L r h) : z_Run d nh own cc nL scr Z pc L (.inl x :: r) h := by
  intro hn p l e R s m args below meth c g A kc ks H locs ls Q C hP hS hl hR
  exact lv_if_ge C.1.1 C.1.2.1 hd ht (fun q => (kt q hn p l e R s m args below meth c g A kc ks H locs ls Q C hP hS hl hR)) (fun q => (kf q hn p l e R s m args below meth c g A kc ks H locs ls Q C hP hS hl hR))
theorem z_icmp_gt {x y : Int32} {off : Int} {tgt : Nat} (hd : decode cc pc = .ok (.if_icmp .gt off, 3)) (ht : (pc : Int) + off = (tgt : Int)) (kt : y < x → z_Run d nh own cc nL scr Z tgt L r h) (kf : ¬ y < x → z_Run d nh own cc nL scr Z (pc + 3) L r h) : z_Run d nh own cc nL scr Z pc L (.inl y :: .inl x :: r) h := by
  intro hn p l e R s m args below meth c g A kc ks H locs ls Q C hP hS hl hR
  exact lv_icmp_gt C.1.1 C.1.2.1 hd ht (fun q => (kt q hn p l e R s m args below meth c g A kc ks H locs ls Q C hP hS hl hR)) (fun q => (kf q hn p l e R s m args below meth c g A kc ks H locs ls Q C hP hS hl hR))
theorem z_if_gt {x : Int32} {off : Int} {tgt : Nat} (hd : decode cc pc = .ok (.ifCond .gt off, 3)) (ht : (pc : Int) + off = (tgt : Int)) (kt : 0 < x → z_Run d nh own cc nL scr Z tgt L r h) (kf : ¬ 0 < x → z_Run d nh own cc nL scr Z (pc + 3) L r h) : z_Run d nh own cc nL scr Z pc L (.inl x :: r) h := by
  intro hn p l e R s m args below meth c g A kc ks H locs ls Q C hP hS hl hR
  exact lv_if_gt C.1.1 C.1.2.1 hd ht (fun q => (kt q hn p l e R s m args below meth c g A kc ks H locs ls Q C hP hS hl hR)) (fun q => (kf q hn p l e R s m args below meth c g A kc ks H locs ls Q C hP hS hl hR))
theorem z_icmp_le {x y : Int32} {off : Int} {tgt : Nat} (hd : decode cc pc = .ok (.if_icmp .le off, 3)) (ht : (pc : Int) + off = (tgt : Int)) (kt : x ≤ y → z_Run d nh own cc nL scr Z tgt L r h) (kf : ¬ x ≤ y → z_Run d nh own cc nL scr Z (pc + 3) L r h) : z_Run d nh own cc nL scr Z pc L (.inl y :: .inl x :: r) h := by
  intro hn p l e R s m args below meth c g A kc ks H locs ls Q C hP hS hl hR
  exact lv_icmp_le C.1.1 C.1.2.1 hd ht (fun q => (kt q hn p l e R s m args below meth c g A kc ks H locs ls Q C hP hS hl hR)) (fun q => (kf q hn p l e R s m args below meth c g A kc ks H locs ls Q C hP hS hl hR))
theorem z_if_le {x : Int32} {off : Int} {tgt : Nat} (hd : decode cc pc = .ok (.ifCond .le off, 3)) (ht : (pc : Int) + off = (tgt : Int)) (kt : x ≤ 0 → z_Run d nh own cc nL scr Z tgt L r h) (kf : ¬ x ≤ 0 → z_Run d nh own cc nL scr Z (pc + 3) L r h) : z_Run d nh own cc nL scr Z pc L (.inl x :: r) h := by
  intro hn p l e R s m args below meth c g A kc ks H locs ls Q C hP hS hl hR
  exact lv_if_le C.1.1 C.1.2.1 hd ht (fun q => (kt q hn p l e R s m args below meth c g A kc ks H locs ls Q C hP hS hl hR)) (fun q => (kf q hn p l e R s m args below meth c g A kc ks H locs ls Q C hP hS hl hR))
theorem z_goto {off : Int} {tgt : Nat} (hd : decode cc pc = .ok (.goto off, 3)) (ht : (pc : Int) + off = (tgt : Int)) (k : z_Run d nh own cc nL scr Z tgt L r h) : z_Run d nh own cc nL scr Z pc L r h := by
  intro hn p l e R s m args below meth c g A kc ks H locs ls Q C hP hS hl hR
  exact lv_goto C.1.1 C.1.2.1 hd ht (k hn p l e R s m args below meth c g A kc ks H locs ls Q C hP hS hl hR)
theorem z_lookup {x : Int32} {dflt off : Int} {ps : Array (Int × Int)} {len tgt : Nat} (hd : decode cc pc = .ok (.lookupswitch dflt ps, len)) (hp : (ps.toList.zip (ps.toList.drop 1)).all (fun (a, next) => a.1 < next.1) = true) (ho : Op.lookupswitch.offset ps.toList dflt x.toInt = off) (ht : (pc : Int) + off = (tgt : Int)) (k : z_Run d nh own cc nL scr Z tgt L r h) : z_Run d nh own cc nL scr Z pc L (.inl x :: r) h := by
  intro hn p l e R s m args below meth c g A kc ks H locs ls Q C hP hS hl hR
  exact lv_lookup C.1.1 C.1.2.1 hd hp ho ht (k hn p l e R s m args below meth c g A kc ks H locs ls Q C hP hS hl hR)
theorem z_tableIn {x : Int32} {dflt lo hi off : Int} {offs : Array Int} {len tgt : Nat} (hd : decode cc pc = .ok (.tableswitch dflt lo hi offs, len)) (h1 : ¬ x.toInt < lo) (h2 : ¬ hi < x.toInt) (ho : offs[(x.toInt - lo).toNat]? = some off) (ht : (pc : Int) + off = (tgt : Int)) (k : z_Run d nh own cc nL scr Z tgt L r h) : z_Run d nh own cc nL scr Z pc L (.inl x :: r) h := by
  intro hn p l e R s m args below meth c g A kc ks H locs ls Q C hP hS hl hR
  exact lv_tableIn C.1.1 C.1.2.1 hd h1 h2 ho ht (k hn p l e R s m args below meth c g A kc ks H locs ls Q C hP hS hl hR)
theorem z_tableOut {x : Int32} {dflt lo hi : Int} {offs : Array Int} {len tgt : Nat} (hd : decode cc pc = .ok (.tableswitch dflt lo hi offs, len)) (ho : x.toInt < lo ∨ hi < x.toInt) (ht : (pc : Int) + dflt = (tgt : Int)) (k : z_Run d nh own cc nL scr Z tgt L r h) : z_Run d nh own cc nL scr Z pc L (.inl x :: r) h := by
  intro hn p l e R s m args below meth c g A kc ks H locs ls Q C hP hS hl hR
  exact lv_tableOut C.1.1 C.1.2.1 hd ho ht (k hn p l e R s m args below meth c g A kc ks H locs ls Q C hP hS hl hR)
theorem z_ldc {idx : Nat} {v : Int32} (hd : decode cc pc = .ok (.ldc idx, 2)) (hw : Jvm.Cond.constant own idx v ∈ ALL) (k : z_Run d nh own cc nL scr Z (pc + 2) L (.inl v :: r) h) : z_Run d nh own cc nL scr Z pc L r h := by
  intro hn p l e R s m args below meth c g A kc ks H locs ls Q C hP hS hl hR
  exact lv_ldc C.1.1 C.1.2.1 C.1.2.2.2.1 (C.1.2.2.2.2 _ hw) hd (k hn p l e R s m args below meth c g A kc ks H locs ls Q C hP hS hl hR)
theorem z_ldcw {idx : Nat} {v : Int32} (hd : decode cc pc = .ok (.ldc_w idx, 3)) (hw : Jvm.Cond.constant own idx v ∈ ALL) (k : z_Run d nh own cc nL scr Z (pc + 3) L (.inl v :: r) h) : z_Run d nh own cc nL scr Z pc L r h := by
  intro hn p l e R s m args below meth c g A kc ks H locs ls Q C hP hS hl hR
  exact lv_ldcw C.1.1 C.1.2.1 C.1.2.2.2.1 (C.1.2.2.2.2 _ hw) hd (k hn p l e R s m args below meth c g A kc ks H locs ls Q C hP hS hl hR)
theorem z_ldcS {i : Nat} (hi : i < 5) (ho : own = RX6) (hd : decode cc pc = .ok (.ldc (z_ix i), 2)) (k : z_Run d nh own cc nL scr Z (pc + 2) L (.inr (some (1000000 + i)) :: r) h) : z_Run d nh own cc nL scr Z pc L r h := by
  intro hn p l e R s m args below meth c g A kc ks H locs ls Q C hP hS hl hR
  obtain ⟨-, h2, -⟩ := C.2.2.2.2.1
  exact va_ldcS C.1.1 C.1.2.1 C.1.2.2.2.1 (by rw [ho]; exact h2 i hi) hd (k hn p l e R s m args below meth c g A kc ks H locs ls Q C hP hS hl hR)
def z_K (ci : Nat) (C : String) (T : u_T) (N : Nat) : Prop := vwCl[ci]? = some (C, T, N) ∧ (∀ w ∈ u_ws C T N, w ∈ ALL) ∧ (∃ ty : Nat → FieldType, ∀ k, k < N → parseFieldDescriptor (T k).2.2.1 = some (ty k)) ∧ ∀ a, a < N → ∀ b, b < N → a ≠ b → (T a).2.1 ≠ (T b).2.1
theorem z_getf {idx ci k a N : Nat} {C0 : String} {T : u_T} {fs : List z_V} {v : z_V} (hd : decode cc pc = .ok (.getfield idx, 3)) (hc : z_K ci C0 T N) (hk : k < N) (hlink : Jvm.Cond.fieldLink own idx (T k).1 (T k).2.1 (T k).2.2.1 ∈ ALL) (ha : h[a]? = some (.inr (.inr (.inr (ci, fs))))) (hv : fs[k]? = some v) (k : z_Run d nh own cc nL scr Z (pc + 3) L (v :: r) h) : z_Run d nh own cc nL scr Z pc L (.inr (some a) :: r) h := by
  intro hn p l e R s m args below meth c g A kc ks H locs ls Q C hP hS hl hR
  exact va_get C.1.1 C.1.2.1 C.1.2.2.2.2 hc.2.1 C.1.2.2.2.1 C.2.1 hP a (z_cw_at ha) hc.1 _ hk (C.1.2.2.2.2 _ hlink) (fun _ h => h) (v := z_cv g.2.2 v) (by rw [List.getElem?_map, hv]; rfl) hd (k hn p l e R s m args below meth c g A kc ks H locs ls Q C hP hS hl hR)
theorem z_putf {idx ci kf a N : Nat} {C0 : String} {T : u_T} {fs : List z_V} {x : Int32} {ty : FieldType} (hd : decode cc pc = .ok (.putfield idx, 3)) (hc : z_K ci C0 T N) (hk : kf < N) (hlink : Jvm.Cond.fieldLink own idx (T kf).1 (T kf).2.1 (T kf).2.2.1 ∈ ALL) (hfin : (T kf).2.2.2 = false) (hpd : parseFieldDescriptor (T kf).2.2.1 = some ty) (hnr : narrow ty (.int x) = .int x) (hft : fits ty (.int x) = true) (hlen : kf < fs.length) (ha : h[a]? = some (.inr (.inr (.inr (ci, fs))))) (k : z_Run d nh own cc nL scr Z (pc + 3) L r (h.set a (.inr (.inr (.inr (ci, fs.set kf (.inl x))))))) : z_Run d nh own cc nL scr Z pc L (.inl x :: .inr (some a) :: r) h := by
  intro hn p l e R s m args below meth c g A kc ks H locs ls Q C hP hS hl hR
  obtain ⟨ty0, hty⟩ := hc.2.2.1
  refine va_put C.1.1 C.1.2.1 C.1.2.2.2.2 hc.2.1 ty0 hty hc.2.2.2 C.1.2.2.2.1 C.2.1 hP (z_D hn C.2.2.1 C.2.2.2.1) hS a (z_cw_at ha) hc.1 kf hk (C.1.2.2.2.2 _ hlink) (fun _ h => h) hfin hpd hnr hft (by rw [List.length_map]; exact hlen) hd (fun H1 locs1 hP1 _ hS1 => ?_)
  refine k (by rw [List.length_set]; exact hn) p l e R s m args below meth c g A kc ks H1 locs1 ls Q C ?_ hS1 hl hR
  rw [← z_cw_set]
  show va_P g.1 vwCl ((z_cw g h).set a (g.2.2 a, .inr (ci, (fs.set kf (.inl x)).map (z_cv g.2.2)))) H1
  rw [List.map_set]
  exact hP1
theorem z_iald {a n : Nat} {f : Nat → Int32} {i : Int32} (hd : decode cc pc = .ok (.iaload, 1)) (ha : h[a]? = some (.inl (n, f))) (hin : vp_in i n) (k : z_Run d nh own cc nL scr Z (pc + 1) L (.inl (f i.toNatClampNeg) :: r) h) : z_Run d nh own cc nL scr Z pc L (.inl i :: .inr (some a) :: r) h := by
  intro hn p l e R s m args below meth c g A kc ks H locs ls Q C hP hS hl hR
  exact va_iald C.1.1 C.1.2.1 C.2.1 hP a 0 (z_cw_at ha) rfl hin hd (k hn p l e R s m args below meth c g A kc ks H locs ls Q C hP hS hl hR)
theorem z_bald {a n : Nat} {f : Nat → Int32} {i : Int32} (hd : decode cc pc = .ok (.baload, 1)) (ha : h[a]? = some (.inr (.inl (n, f)))) (hin : vp_in i n) (k : z_Run d nh own cc nL scr Z (pc + 1) L (.inl (f i.toNatClampNeg) :: r) h) : z_Run d nh own cc nL scr Z pc L (.inl i :: .inr (some a) :: r) h := by
  intro hn p l e R s m args below meth c g A kc ks H locs ls Q C hP hS hl hR
  exact va_zald C.1.1 C.1.2.1 C.2.1 hP a 1 (z_cw_at ha) rfl hin hd (k hn p l e R s m args below meth c g A kc ks H locs ls Q C hP hS hl hR)
theorem z_aald {a n : Nat} {f : Nat → Option Nat} {i : Int32} (hd : decode cc pc = .ok (.aaload, 1)) (ha : h[a]? = some (.inr (.inr (.inl (n, f))))) (hin : vp_in i n) (k : z_Run d nh own cc nL scr Z (pc + 1) L (.inr (f i.toNatClampNeg) :: r) h) : z_Run d nh own cc nL scr Z pc L (.inl i :: .inr (some a) :: r) h := by
  intro hn p l e R s m args below meth c g A kc ks H locs ls Q C hP hS hl hR
  have hlt : i.toNatClampNeg < n := Nat.not_le.mp fun q => hin (Or.inr q)
  have hk := (k hn p l e R s m args below meth c g A kc ks H locs ls Q C hP hS hl hR)
  refine W.aald (v := va_rf ((f i.toNatClampNeg).map g.2.2)) (ty := .array .int) C.1.1 C.1.2.1 (hP a _ (z_cw_at ha)) ((C.2.1.2 2 _ rfl).1 n (fun j => va_rf ((f j).map g.2.2))) rfl (fun q => by cases q) (by show ¬ (i < 0 ∨ (arrV _ _ _).slots.size ≤ _); rw [arrV_size]; exact hin) (by show (arrV _ _ _).slots[_]? = _; rw [arrV_read _ _ hlt]) rfl rfl hd ?_
  have e1 : va_rf ((f i.toNatClampNeg).map g.2.2) = z_cv g.2.2 (.inr (f i.toNatClampNeg)) := by
    cases f i.toNatClampNeg <;> rfl
  rw [e1]
  exact hk
theorem z_iast {a n : Nat} {f : Nat → Int32} {i x : Int32} (hd : decode cc pc = .ok (.iastore, 1)) (ha : h[a]? = some (.inl (n, f))) (hin : vp_in i n) (k : z_Run d nh own cc nL scr Z (pc + 1) L r (h.set a (.inl (n, upd f i.toNatClampNeg x)))) : z_Run d nh own cc nL scr Z pc L (.inl x :: .inl i :: .inr (some a) :: r) h := by
  intro hn p l e R s m args below meth c g A kc ks H locs ls Q C hP hS hl hR
  refine va_iast C.1.1 C.1.2.1 C.2.1 hP (z_D hn C.2.2.1 C.2.2.2.1) hS a 0 (z_cw_at ha) rfl hin hd (fun H1 locs1 hP1 _ hS1 => ?_)
  refine k (by rw [List.length_set]; exact hn) p l e R s m args below meth c g A kc ks H1 locs1 ls Q C ?_ hS1 hl hR
  rw [← z_cw_set]
  exact hP1
theorem z_bast {a n : Nat} {f : Nat → Int32} {i x : Int32} (hd : decode cc pc = .ok (.bastore, 1)) (ha : h[a]? = some (.inr (.inl (n, f)))) (hin : vp_in i n) (k : z_Run d nh own cc nL scr Z (pc + 1) L r (h.set a (.inr (.inl (n, upd f i.toNatClampNeg (vp_nar .boolean x)))))) : z_Run d nh own cc nL scr Z pc L (.inl x :: .inl i :: .inr (some a) :: r) h := by
  intro hn p l e R s m args below meth c g A kc ks H locs ls Q C hP hS hl hR
  refine va_zast C.1.1 C.1.2.1 C.2.1 hP (z_D hn C.2.2.1 C.2.2.2.1) hS a 1 (z_cw_at ha) rfl hin hd (fun H1 locs1 hP1 _ hS1 => ?_)
  refine k (by rw [List.length_set]; exact hn) p l e R s m args below meth c g A kc ks H1 locs1 ls Q C ?_ hS1 hl hR
  rw [← z_cw_set]
  exact hP1
theorem z_alen {a n : Nat} {f : Nat → Int32} (hd : decode cc pc = .ok (.arraylength, 1)) (ha : h[a]? = some (.inl (n, f))) (k : z_Run d nh own cc nL scr Z (pc + 1) L (.inl (Int32.ofNat n) :: r) h) : z_Run d nh own cc nL scr Z pc L (.inr (some a) :: r) h := by
  intro hn p l e R s m args below meth c g A kc ks H locs ls Q C hP hS hl hR
  exact va_alen C.1.1 C.1.2.1 C.2.1 hP a 0 (z_cw_at ha) (ty := .int) rfl rfl hd (k hn p l e R s m args below meth c g A kc ks H locs ls Q C hP hS hl hR)
theorem z_sld {n : Nat} {f : Nat → Int32} {i : Int32} (hd : decode cc pc = .ok (.iaload, 1)) (hs : scr = some (n, f)) (hin : vp_in i n) (k : z_Run d nh own cc nL scr Z (pc + 1) L (.inl (f i.toNatClampNeg) :: r) h) : z_Run d nh own cc nL scr Z pc L (.inl i :: .inr (some 999999) :: r) h := by
  intro hn p l e R s m args below meth c g A kc ks H locs ls Q C hP hS hl hR
  obtain ⟨h1, h2, h3⟩ := C.2.2.2.2.2.1 _ hs
  exact va_sld C.1.1 C.1.2.1 h1 h2 h3 hS hin hd (k hn p l e R s m args below meth c g A kc ks H locs ls Q C hP hS hl hR)
theorem z_slen {n : Nat} {f : Nat → Int32} (hd : decode cc pc = .ok (.arraylength, 1)) (hs : scr = some (n, f)) (k : z_Run d nh own cc nL scr Z (pc + 1) L (.inl (Int32.ofNat n) :: r) h) : z_Run d nh own cc nL scr Z pc L (.inr (some 999999) :: r) h := by
  intro hn p l e R s m args below meth c g A kc ks H locs ls Q C hP hS hl hR
  obtain ⟨h1, h2, h3⟩ := C.2.2.2.2.2.1 _ hs
  exact va_slen C.1.1 C.1.2.1 h1 h2 h3 hS hd (k hn p l e R s m args below meth c g A kc ks H locs ls Q C hP hS hl hR)
theorem z_done {v : Option z_V} (hd : z_ret cc pc v) (hz : Z v h) : z_Run d nh own cc nL scr Z pc L v.toList h := by
  intro hn p l e R s m args below meth c g A kc ks H locs ls Q C hP hS hl hR
  exact hR v h H locs pc ls hz hn hP hS hd
theorem z_sub {L' : List (Nat × z_V)} (hs : ∀ q ∈ L', q ∈ L) (k : z_Run d nh own cc nL scr Z pc L' r h) : z_Run d nh own cc nL scr Z pc L r h := by
  intro hn p l e R s m args below meth c g A kc ks H locs ls Q C hP hS hl hR
  exact k hn p l e R s m args below meth c g A kc ks H locs ls Q C hP hS (z_has_sub hl hs) hR
end z_rules
