section
/-! new int[5][12]: one outer row of five, five rows of twelve ints, at addresses behind each other -/
section k_mn
variable {p : Program} {l : Launch} {e : Env} {R : Room} {s : State} {m : MethodId} {args : Array Value} {below : List Frame} {meth : Method} {c : Code} {H : Heap} {locs : List Loc} {cells slots : Nat} {Q : State → Prop}
variable {cc : ByteArray} {pc : Nat} {ls : Array Slot} {rest : List Value} {D : va_G} {cl : List vw_C} {A : Nat → Prop} {ws : va_W} {H0 : Heap}
def k_out (q : Nat) : Nat → Option Nat := fun i => if i < 5 then some (q + 1 + i) else none
def k_rows (cI cA : ClassId) (q : Nat) : va_W := [(q, .inl (cA, 5, .inr (.inr (.inr (.inr (k_out q)))))), (q + 1, .inl (cI, 12, .inl (fun _ => 0))), (q + 2, .inl (cI, 12, .inl (fun _ => 0))), (q + 3, .inl (cI, 12, .inl (fun _ => 0))), (q + 4, .inl (cI, 12, .inl (fun _ => 0))), (q + 5, .inl (cI, 12, .inl (fun _ => 0)))]
theorem k_outer (c : ClassId) (h0 : Nat) : ∀ i : Nat, Jvm.Free.Multi.outerC c 5 h0 i = arrV c 5 (fun j => va_rf (if j < i then some (h0 + 1 + j) else none))
  | 0 => by
    show ({ cls := c, slots := Array.replicate 5 .null, vm := .none } : Cell) = _
    rw [arrV_new]
    refine congrArg (arrV c 5) (funext fun j => ?_)
    simp [va_rf]
  | i + 1 => by
    show (Jvm.Free.Multi.outerC c 5 h0 i).setSlot i (.ref (h0 + 1 + i)) = _
    rw [k_outer c h0 i, arrV_store]
    refine congrArg (arrV c 5) (funext fun j => ?_)
    by_cases e : j = i
    · subst e
      simp [updV, va_rf]
    · by_cases h : j < i
      · simp [updV, e, h, Nat.lt_succ_of_lt h]
      · simp [updV, e, h, show ¬ j < i + 1 by omega]
theorem k_inner (c : ClassId) : Jvm.Free.Multi.innerC c 12 (defaultValue .int) = vp_cell c (12, .inl (fun _ => 0)) := by
  show ({ cls := c, slots := Array.replicate 12 (defaultValue .int), vm := .none } : Cell) = _
  rw [vp_cell_i, arrV_new]
  rfl
theorem k_pushD {A : Nat → Prop} {ws : va_W} {H : Heap} (hP : va_P D cl ws H) (hD : va_D A ws) (hA : ∀ q, H.size ≤ q → A q) {w : va_W} (hw : ∀ (k : Nat) (x : Nat × va_E), w[k]? = some x → x.1 = H.size + k) : va_D A (ws ++ w) := by
  refine ⟨fun i j x y hi hj hxy => ?_, fun k x hx => ?_⟩
  · by_cases h1 : i < ws.length <;> by_cases h2 : j < ws.length
    · rw [List.getElem?_append_left h1] at hi
      rw [List.getElem?_append_left h2] at hj
      exact hD.1 i j x y hi hj hxy
    · rw [List.getElem?_append_left h1] at hi
      rw [List.getElem?_append_right (by omega)] at hj
      have a1 := (hP i x hi).lt
      have a2 := hw _ _ hj
      omega
    · rw [List.getElem?_append_right (by omega)] at hi
      rw [List.getElem?_append_left h2] at hj
      have a1 := (hP j y hj).lt
      have a2 := hw _ _ hi
      omega
    · rw [List.getElem?_append_right (by omega)] at hi hj
      have a1 := hw _ _ hi
      have a2 := hw _ _ hj
      omega
  · by_cases h1 : k < ws.length
    · rw [List.getElem?_append_left h1] at hx
      exact hD.2 k x hx
    · rw [List.getElem?_append_right (by omega)] at hx
      rw [hw _ _ hx]
      exact hA _ (Nat.le_add_right _ _)
theorem k_mna (hexec : p.tables.exec = Jvm.exec) (hb : c.code = cc) {own : String} {index : Nat} {cI cA : ClassId} (hown : s.vm.findClass own = some m.cls) (hclink : (Cond.classLink own index ("[" ++ (FieldType.array .int).toString)).before args s = true) (hover : (Cond.arrayOver (.array .int)).before args s = true) (harr : (Cond.arrayClass .int).before args s = true)
    (hcI : s.vm.findClass (FieldType.array .int).toString = some cI) (hcA : s.vm.findClass ("[" ++ (FieldType.array .int).toString) = some cA)
    (hP : va_P D cl ws H) (hD : va_D A ws) (hS : va_S A H0 H locs) (hA : ∀ q, H0.size ≤ q → A q) (hcells : cells + 6 ≤ R.cells) (hslots : slots + 65 ≤ R.slots) (hdg : decode cc pc = .ok (.multianewarray index 2, 4))
    (kk : ∀ (q : Nat) (H1 : Heap), va_P D cl (ws ++ k_rows cI cA q) H1 → va_D A (ws ++ k_rows cI cA q) → va_S A H0 H1 locs →
      W p l e R s m args below meth c H1 locs (cells + 6) (slots + 65) Q (F0 m (pc + 4) ls (.ref q :: rest))) : W p l e R s m args below meth c H locs cells slots Q (F0 m pc ls (.int 12 :: .int 5 :: rest)) := by
  intro T hT Xs
  have n5 : (5 : Int32).toNatClampNeg = 5 := by decide
  have n12 : (12 : Int32).toNatClampNeg = 12 := by decide
  obtain ⟨vm₁, cA', comp, -, fA, fC, -, -, X', step⟩ := Xs.multianewarray2F hexec hown hclink hover harr (g := F0 m pc ls (.int 12 :: .int 5 :: rest)) rfl (by rw [hb]; exact hdg) rfl (by decide) (by decide) (by decide) (by decide) (by decide) rfl rfl (by rw [n5]; exact hcells) (by rw [n5, n12]; exact hslots)
  rw [n5, n12] at X' step
  have e1 : comp = cI := Option.some.inj (fC.symm.trans hcI)
  have e2 : cA' = cA := Option.some.inj (fA.symm.trans hcA)
  subst e1
  subst e2
  generalize hF : Jvm.Free.Multi.fill (T.setVm vm₁) cA' comp 5 12 (defaultValue .int) 5 = F at X' step
  have hTh : (T.setVm vm₁).heap = H := hT
  obtain ⟨f1, f2, -, -⟩ := Jvm.Free.Multi.fill_facts (T.setVm vm₁) cA' comp 5 12 (defaultValue .int) 5
  rw [hF, hTh] at f1 f2
  have hold : ∀ x : Nat, x < H.size → F.heap[x]? = H[x]? := fun x hx => by
    have := Jvm.Free.Multi.fill_old (T.setVm vm₁) cA' comp 5 12 (defaultValue .int) (a := x) (by rw [hTh]; exact hx) 5
    rw [hF, hTh] at this
    exact this
  have hrow : ∀ j : Nat, j < 5 → F.heap[H.size + 1 + j]? = some (vp_cell comp (12, .inl (fun _ => 0))) := fun j hj => by
    have := Jvm.Free.Multi.fill_inner (T.setVm vm₁) cA' comp 5 12 (defaultValue .int) 5 j hj
    rw [hF, hTh, k_inner] at this
    exact this
  rw [k_outer] at f2
  have hP1 : va_P D cl (ws ++ k_rows comp cA' H.size) F.heap := (hP.kept (fun k9 x hx => hold x.1 ((hP k9 x hx).lt))).app (fun k9 x hx => by
    match k9, hx with
    | 0, hx =>
      cases hx
      show F.heap[H.size]? = some (vp_cell _ _)
      rw [f2, vp_cell_q]
      rfl
    | 1, hx => cases hx; exact hrow 0 (by decide)
    | 2, hx => cases hx; exact hrow 1 (by decide)
    | 3, hx => cases hx; exact hrow 2 (by decide)
    | 4, hx => cases hx; exact hrow 3 (by decide)
    | 5, hx => cases hx; exact hrow 4 (by decide)
    | k + 6, hx => cases hx)
  have hD1 : va_D A (ws ++ k_rows comp cA' H.size) := k_pushD hP hD (fun q h => hA q (Nat.le_trans hS.1 h)) (fun k9 x hx => by
    match k9, hx with
    | 0, hx => cases hx; rfl
    | 1, hx => cases hx; rfl
    | 2, hx => cases hx; rfl
    | 3, hx => cases hx; rfl
    | 4, hx => cases hx; rfl
    | 5, hx => cases hx; rfl
    | k + 6, hx => cases hx)
  obtain ⟨t, a1, b1⟩ := kk H.size F.heap hP1 hD1 ⟨by rw [f1]; have := hS.1; omega, fun x h1 h2 => (hold x (Nat.lt_of_lt_of_le h1 hS.1)).trans (hS.2.1 x h1 h2), hS.2.2⟩ F rfl X'
  refine ⟨t, step t ?_, b1⟩
  have e : T.heap.size = H.size := by rw [hT]
  rw [e]
  exact a1
end k_mn
end
