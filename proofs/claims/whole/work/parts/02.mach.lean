/-! THE PURE MACHINE: places for addresses, one heap of cells, one judgement a body and one a call -/
def ALL : List Jvm.Cond := lw_tbl.filter goodWord
theorem mem_ALL {w : Jvm.Cond} {i : Nat} (h : lw_tbl[i]? = some w) (g : goodWord w = true) : w ∈ ALL := List.mem_filter.mpr ⟨List.mem_of_getElem? h, g⟩
theorem good_ALL {w : Jvm.Cond} (h : w ∈ ALL) : (w.onTables && w.keeps) = true ∨ ∃ ty, w = .arrayClass ty := good_of_word (List.mem_filter.mp h).2
theorem good_in {y : MethodName} {cc : ByteArray} {n : Nat} {r : Option FieldType} (h : Jvm.Cond.code y cc n r ∈ ALL) : GoodIn ALL (Jvm.Cond.code y cc n r :: ALL) := fun w hw => by
  rcases List.mem_cons.mp hw with rfl | hw
  · exact ⟨h, good_ALL h⟩
  · exact ⟨hw, good_ALL hw⟩
abbrev z_V : Type := Int32 ⊕ Option Nat
abbrev z_C : Type := (Nat × (Nat → Int32)) ⊕ ((Nat × (Nat → Int32)) ⊕ ((Nat × (Nat → Option Nat)) ⊕ (Nat × List z_V)))
def z_cv (ad : Nat → Nat) : z_V → Value
  | .inl x => .int x
  | .inr none => .null
  | .inr (some k) => .ref (ad k)
theorem z_cv_cat (ad : Nat → Nat) (v : z_V) : (z_cv ad v).category = 1 := by
  rcases v with x | (_ | k) <;> rfl
abbrev z_I : Type := ClassId × ClassId × ClassId
def z_ce (ci : z_I) (ad : Nat → Nat) : z_C → va_E
  | .inl a => .inl (ci.1, a.1, .inl a.2)
  | .inr (.inl a) => .inl (ci.2.1, a.1, .inl a.2)
  | .inr (.inr (.inl a)) => .inl (ci.2.2, a.1, .inr (.inr (.inr (.inr (fun j => (a.2 j).map ad)))))
  | .inr (.inr (.inr o)) => .inr (o.1, o.2.map (z_cv ad))
abbrev z_G : Type := va_G × z_I × (Nat → Nat)
def z_cw (g : z_G) (h : List z_C) : va_W := h.mapIdx (fun k e => (g.2.2 k, z_ce g.2.1 g.2.2 e))
def z_ty (g : z_G) : List (ClassId × FieldType) := [(g.2.1.1, .int), (g.2.1.2.1, .boolean), (g.2.1.2.2, .array .int)]
theorem z_cw_at {g : z_G} {h : List z_C} {k : Nat} {e : z_C} (hk : h[k]? = some e) : (z_cw g h)[k]? = some (g.2.2 k, z_ce g.2.1 g.2.2 e) := by
  unfold z_cw
  rw [List.getElem?_mapIdx, hk]
  rfl
theorem z_cw_get {g : z_G} {h : List z_C} {i : Nat} {p : Nat × va_E} (hp : (z_cw g h)[i]? = some p) : i < h.length ∧ p.1 = g.2.2 i := by
  unfold z_cw at hp
  rw [List.getElem?_mapIdx] at hp
  cases he : h[i]? with
  | none => rw [he] at hp; cases hp
  | some e => rw [he] at hp; cases hp; exact ⟨(List.getElem?_eq_some_iff.mp he).1, rfl⟩
theorem z_cw_set {g : z_G} {h : List z_C} {k : Nat} {e : z_C} : (z_cw g h).set k (g.2.2 k, z_ce g.2.1 g.2.2 e) = z_cw g (h.set k e) := by
  unfold z_cw
  refine List.ext_getElem? (fun j => ?_)
  rw [List.getElem?_mapIdx, List.getElem?_set, List.getElem?_set, List.getElem?_mapIdx, List.length_mapIdx]
  by_cases hj : k = j
  · subst hj
    by_cases hl : k < h.length <;> simp [hl]
  · simp [hj]
def z_A (g : z_G) (n : Nat) : Nat → Prop := fun q => ∃ k, k < n ∧ g.2.2 k = q
def z_inj (g : z_G) (n : Nat) : Prop := ∀ i j, i < n → j < n → g.2.2 i = g.2.2 j → i = j
theorem z_D {g : z_G} {h : List z_C} {A : Nat → Prop} {n : Nat} (hn : h.length = n) (hi : z_inj g n) (hA : ∀ q, z_A g n q → A q) : va_D A (z_cw g h) := by
  subst hn
  refine ⟨fun i j p q hp hq hpq => ?_, fun k q hq => ?_⟩
  · obtain ⟨h1, h2⟩ := z_cw_get hp
    obtain ⟨h3, h4⟩ := z_cw_get hq
    exact hi i j h1 h3 (by rw [← h2, ← h4]; exact hpq)
  · obtain ⟨h1, h2⟩ := z_cw_get hq
    exact hA _ ⟨k, h1, h2.symm⟩
def z_lit (g : z_G) (A : Nat → Prop) (U : State) (H : Heap) : Prop := vk_S 5 z_len z_byt (fun i => g.2.2 (1000000 + i)) (fun i => g.2.2 (2000000 + i)) A U H ∧ (∀ i, i < 5 → vk_R RX6 (z_ix i) (z_tx i) (g.2.2 (1000000 + i)) U) ∧ va_Z "java/lang/String" "COMPACT_STRINGS" "Z" (.int 1) A U H ∧ (va_Z "jdk/internal/util/Preconditions" "SIOOBE_FORMATTER" "Ljava/util/function/BiFunction;" .null A U H ∨ va_Z "jdk/internal/util/Preconditions" "SIOOBE_FORMATTER" "Ljava/util/function/BiFunction;" (.ref (g.2.2 3000000)) A U H) ∧ ∀ q ∈ z_nst, va_Nw (.methodLinkNest q.1 q.2.1 q.2.2.1 q.2.2.2) U
theorem z_lit.kept {g : z_G} {A : Nat → Prop} {U : State} {H H1 : Heap} (h : z_lit g A U H) (hq : ∀ a : Nat, a < H.size → ¬ A a → H1[a]? = H[a]?) : z_lit g A U H1 := by
  obtain ⟨h1, h2, h3, h4, h5⟩ := h
  exact ⟨h1.kept hq, h2, h3.kept hq, h4.imp (fun z => z.kept hq) (fun z => z.kept hq), h5⟩
theorem z_lit.narrow {g : z_G} {A B : Nat → Prop} {U : State} {H : Heap} (h : z_lit g A U H) (hq : ∀ q, B q → A q) : z_lit g B U H := by
  obtain ⟨h1, h2, h3, h4, h5⟩ := h
  exact ⟨h1.narrow hq, h2, h3.narrow hq, h4.imp (fun z => z.narrow hq) (fun z => z.narrow hq), h5⟩
theorem z_lit.warm {g : z_G} {A : Nat → Prop} {s U : State} {H : Heap} (h : z_lit g A s H) (hW : s.WarmedH U.vm) : z_lit g A U H := by
  obtain ⟨h1, h2, h3, h4, h5⟩ := h
  exact ⟨h1.moved hW.alike, fun i hi => (h2 i hi).warm hW, h3.moved hW.alike, h4.imp (fun z => z.moved hW.alike) (fun z => z.moved hW.alike), fun q hq => (h5 q hq).warmM hW⟩
theorem z_lit.same {g : z_G} {A : Nat → Prop} {s U : State} {H : Heap} (h : z_lit g A s H) (hv : U.vm = s.vm) : z_lit g A U H := by
  obtain ⟨h1, h2, h3, h4, h5⟩ := h
  have ha : s.vm.Alike U.vm := by rw [hv]; exact Vm.Alike.refl s.vm
  exact ⟨h1.moved ha, fun i hi => (h2 i hi).same hv, h3.moved ha, h4.imp (fun z => z.moved ha) (fun z => z.moved ha), fun q hq => (h5 q hq).same rfl hv.symm⟩
def z_scr (g : z_G) (scr : Option (Nat × (Nat → Int32))) (A : Nat → Prop) (s : State) : Prop := ∀ q, scr = some q → va_X (g.2.2 999999) q.1 q.2 s s.heap ∧ g.2.2 999999 < s.heap.size ∧ ¬ A (g.2.2 999999)
def z_Cx (d nh : Nat) (own : String) (cc : ByteArray) (nL : Nat) (scr : Option (Nat × (Nat → Int32))) (p : Program) (R : Room) (s : State) (m : MethodId) (args : Array Value) (c : Code) (g : z_G) (A : Nat → Prop) (kc ks : Nat) : Prop :=
  CallFix p m c cc nL s args ALL own ∧ va_K g.1 vwCl (z_ty g) s ∧ z_inj g nh ∧ (∀ q, z_A g nh q → A q) ∧ z_lit g A s s.heap ∧ z_scr g scr A s ∧ (d ≤ R.frames ∧ 64 * d ≤ R.locals ∧ kc ≤ R.cells ∧ ks ≤ R.slots)
def z_ret (cc : ByteArray) (pc : Nat) : Option z_V → Prop
  | none => decode cc pc = .ok (.return_, 1)
  | some (.inl _) => decode cc pc = .ok (.ireturn, 1)
  | some (.inr _) => decode cc pc = .ok (.areturn, 1)
def z_cL (g : z_G) (L : List (Nat × z_V)) : List (Nat × Value) := L.map (fun q => (q.1, z_cv g.2.2 q.2))
/-- from pc, with these locals, stack and cells, the body comes to a return whose answer and cells have Z -/
def z_Run (d nh : Nat) (own : String) (cc : ByteArray) (nL : Nat) (scr : Option (Nat × (Nat → Int32))) (Z : Option z_V → List z_C → Prop) (pc : Nat) (L : List (Nat × z_V)) (st : List z_V) (h : List z_C) : Prop :=
  h.length = nh → ∀ (p : Program) (l : Launch) (e : Env) (R : Room) (s : State) (m : MethodId) (args : Array Value) (below : List Frame) (meth : Method) (c : Code) (g : z_G) (A : Nat → Prop) (kc ks : Nat) (H : Heap) (locs : List Loc) (ls : Array Slot) (Q : State → Prop),
    z_Cx d nh own cc nL scr p R s m args c g A kc ks → va_P g.1 vwCl (z_cw g h) H → va_S A s.heap H locs → lv_has ls nL (z_cL g L) →
    (∀ (v : Option z_V) (h' : List z_C) (H' : Heap) (locs' : List Loc) (pc' : Nat) (ls' : Array Slot), Z v h' → h'.length = nh → va_P g.1 vwCl (z_cw g h') H' → va_S A s.heap H' locs' → z_ret cc pc' v → W p l e R s m args below meth c H' locs' kc ks Q (F0 m pc' ls' (v.toList.map (z_cv g.2.2)))) →
    W p l e R s m args below meth c H locs kc ks Q (F0 m pc ls (st.map (z_cv g.2.2)))
def z_get : List (Nat × z_V) → Nat → Option z_V
  | [], _ => none
  | e :: t, i => bif Nat.beq e.1 i then some e.2 else z_get t i
def z_del (L : List (Nat × z_V)) (i : Nat) : List (Nat × z_V) := L.filter (fun q => !(Nat.beq q.1 i))
def z_set : List (Nat × z_V) → Nat → z_V → List (Nat × z_V)
  | [], i, v => [(i, v)]
  | e :: t, i, v => bif Nat.beq e.1 i then (i, v) :: z_del t i else e :: z_set t i v
def z_pick (L : List (Nat × z_V)) : List Nat → List (Nat × z_V)
  | [] => []
  | k :: ks => match z_get L k with
    | some v => (k, v) :: z_pick L ks
    | none => z_pick L ks
theorem z_get_mem {i : Nat} {v : z_V} : ∀ {L : List (Nat × z_V)}, z_get L i = some v → (i, v) ∈ L
  | [], h => by cases h
  | e :: t, h => by
    unfold z_get at h
    cases hb : Nat.beq e.1 i with
    | true =>
      rw [hb] at h
      have e1 : e.1 = i := Nat.eq_of_beq_eq_true hb
      have e2 : e.2 = v := Option.some.inj h
      rw [← e1, ← e2]
      exact List.mem_cons_self
    | false =>
      rw [hb] at h
      exact List.mem_cons_of_mem _ (z_get_mem h)
theorem z_pick_mem {L : List (Nat × z_V)} {q : Nat × z_V} : ∀ {ks : List Nat}, q ∈ z_pick L ks → q ∈ L
  | [], h => by cases h
  | k :: ks, h => by
    unfold z_pick at h
    cases hg : z_get L k with
    | none => rw [hg] at h; exact z_pick_mem h
    | some v =>
      rw [hg] at h
      rcases List.mem_cons.mp h with rfl | h
      · exact z_get_mem hg
      · exact z_pick_mem h
theorem z_set_mem {i : Nat} {v : z_V} {q : Nat × z_V} : ∀ {L : List (Nat × z_V)}, q ∈ z_set L i v → q = (i, v) ∨ (q ∈ L ∧ ¬ q.1 = i)
  | [], h => Or.inl (List.mem_singleton.mp h)
  | e :: t, h => by
    unfold z_set at h
    cases hb : Nat.beq e.1 i with
    | true =>
      rw [hb] at h
      rcases List.mem_cons.mp h with rfl | h
      · exact Or.inl rfl
      · obtain ⟨h1, h2⟩ := List.mem_filter.mp h
        refine Or.inr ⟨List.mem_cons_of_mem _ h1, fun he => ?_⟩
        have h3 : Nat.beq q.1 i = true := by rw [he]; exact Nat.beq_refl i
        rw [h3] at h2
        cases h2
    | false =>
      rw [hb] at h
      rcases List.mem_cons.mp h with rfl | h
      · refine Or.inr ⟨List.mem_cons_self, fun he => ?_⟩
        have h3 : Nat.beq q.1 i = true := by rw [he]; exact Nat.beq_refl i
        rw [h3] at hb
        cases hb
      · rcases z_set_mem h with h | ⟨h1, h2⟩
        · exact Or.inl h
        · exact Or.inr ⟨List.mem_cons_of_mem _ h1, h2⟩
theorem z_get_ls {g : z_G} {L : List (Nat × z_V)} {i nL : Nat} {v : z_V} {ls : Array Slot} (hl : lv_has ls nL (z_cL g L)) (h : z_get L i = some v) : ls[i]? = some (.val (z_cv g.2.2 v)) :=
  hl.2.2 (i, z_cv g.2.2 v) (List.mem_map.mpr ⟨(i, v), z_get_mem h, rfl⟩)
theorem z_has_sub {g : z_G} {L L' : List (Nat × z_V)} {nL : Nat} {ls : Array Slot} (hl : lv_has ls nL (z_cL g L)) (hs : ∀ q ∈ L', q ∈ L) : lv_has ls nL (z_cL g L') := by
  refine ⟨hl.1, hl.2.1, fun q hq => ?_⟩
  obtain ⟨a, ha, rfl⟩ := List.mem_map.mp hq
  exact hl.2.2 _ (List.mem_map.mpr ⟨a, hs a ha, rfl⟩)
theorem z_has_set {g : z_G} {L : List (Nat × z_V)} {i nL : Nat} {v : z_V} {ls : Array Slot} (hl : lv_has ls nL ((i, z_cv g.2.2 v) :: (z_cL g L).filter (fun q => !(q.1 == i) && !(q.1 + 1 == i && q.2.category == 2)))) : lv_has ls nL (z_cL g (z_set L i v)) := by
  refine ⟨hl.1, hl.2.1, fun q hq => ?_⟩
  obtain ⟨a, ha, rfl⟩ := List.mem_map.mp hq
  rcases z_set_mem ha with rfl | ⟨h1, h2⟩
  · exact hl.2.2 _ List.mem_cons_self
  · refine hl.2.2 _ (List.mem_cons_of_mem _ (List.mem_filter.mpr ⟨List.mem_map.mpr ⟨a, h1, rfl⟩, ?_⟩))
    simp [z_cv_cat, h2]
