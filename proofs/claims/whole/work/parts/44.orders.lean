/-! orders: the words; the class's going through -/
theorem le_max (x : Int32) : ¬ 2147483647 < x := by
  intro h
  have h1 := Int32.lt_iff_toInt_lt.mp h
  have h2 := x.toInt_lt
  have e : (2147483647 : Int32).toInt = 2147483647 := by decide
  omega
def cM (fe : Nat → Int32) : Nat → Nat
  | 0 => 0
  | k + 1 => if fe k = 0 then cM fe k else cM fe k + 1
def sI (fe : Nat → Int32) : Nat → Nat → Nat
  | 0 => fun _ => 0
  | k + 1 => if fe k = 0 then sI fe k else (fun j => if j = cM fe k then k else sI fe k j)
theorem cM_le (fe : Nat → Int32) : ∀ k, cM fe k ≤ k := by
  intro k
  induction k with
  | zero => exact Nat.le_refl _
  | succ k ih => rw [cM]; split <;> omega
theorem cM_cnt (fe : Nat → Int32) : ∀ k, cntF fe k = nI (cM fe k) := by
  intro k
  induction k with
  | zero => rfl
  | succ k ih =>
    rw [cntF, cM, ih]
    by_cases h : fe k = 0
    · rw [if_pos h, if_pos h]
    · rw [if_neg h, if_neg h, nI_succ]
theorem sI_in (fe : Nat → Int32) : ∀ k i, i < cM fe k → sI fe k i < k ∧ ¬ fe (sI fe k i) = 0 := by
  intro k
  induction k with
  | zero => intro i hi; exact absurd hi (by rw [cM]; omega)
  | succ k ih =>
    intro i hi
    rw [cM] at hi
    rw [sI]
    by_cases h : fe k = 0
    · rw [if_pos h] at hi ⊢
      have := ih i hi
      exact ⟨by omega, this.2⟩
    · rw [if_neg h] at hi ⊢
      show (if i = cM fe k then k else sI fe k i) < k + 1 ∧ ¬ fe (if i = cM fe k then k else sI fe k i) = 0
      by_cases e : i = cM fe k
      · rw [if_pos e]; exact ⟨by omega, h⟩
      · rw [if_neg e]
        have := ih i (by omega)
        exact ⟨by omega, this.2⟩
theorem sI_lt (fe : Nat → Int32) : ∀ k i j, i < j → j < cM fe k → sI fe k i < sI fe k j := by
  intro k
  induction k with
  | zero => intro i j hij hj; exact absurd hj (by rw [cM]; omega)
  | succ k ih =>
    intro i j hij hj
    rw [cM] at hj
    rw [sI]
    by_cases h : fe k = 0
    · rw [if_pos h] at hj ⊢
      exact ih i j hij hj
    · rw [if_neg h] at hj ⊢
      show (if i = cM fe k then k else sI fe k i) < (if j = cM fe k then k else sI fe k j)
      by_cases e : j = cM fe k
      · rw [if_pos e, if_neg (by omega)]
        exact (sI_in fe k i (by omega)).1
      · rw [if_neg e, if_neg (by omega)]
        exact ih i j hij (by omega)
theorem sI_inj {fe : Nat → Int32} {k i j : Nat} (hi : i < cM fe k) (hj : j < cM fe k) (h : sI fe k i = sI fe k j) : i = j := by
  rcases Nat.lt_trichotomy i j with q | q | q
  · have := sI_lt fe k i j q hj; omega
  · exact q
  · have := sI_lt fe k j i q hi; omega
theorem itF_snoc {A : Type} (g : A → Nat → A) : ∀ k s a, itF g (k + 1) s a = g (itF g k s a) (s + k) := by
  intro k
  induction k with
  | zero => intro s a; rfl
  | succ k ih =>
    intro s a
    rw [itF_S, ih, itF_S, show s + 1 + k = s + (k + 1) by omega]
theorem itF_cg {A : Type} {g g' : A → Nat → A} : ∀ k s a, (∀ a i, s ≤ i → i < s + k → g a i = g' a i) → itF g k s a = itF g' k s a := by
  intro k
  induction k with
  | zero => intro s a h; rfl
  | succ k ih =>
    intro s a h
    rw [itF_S, itF_S, h a s (by omega) (by omega), ih (s + 1) _ (fun a i h1 h2 => h a i (by omega) (by omega))]
theorem it_sit {A : Type} (g : A → Nat → A) (fe : Nat → Int32) (a : A) : ∀ n, itF (fun a c => if fe c = 0 then a else g a c) n 0 a = itF (fun a i => g a (sI fe n i)) (cM fe n) 0 a := by
  intro n
  induction n with
  | zero => rfl
  | succ n ih =>
    rw [itF_snoc, Nat.zero_add, ih]
    by_cases h : fe n = 0
    · rw [if_pos h, cM, if_pos h, sI, if_pos h]
    · rw [if_neg h, cM, if_neg h, itF_snoc, Nat.zero_add, sI, if_neg h, if_pos rfl]
      congr 1
      refine itF_cg _ _ _ (fun a i h1 h2 => ?_)
      rw [if_neg (by omega)]
abbrev z_Oa : Type := Nat × Int32 × (Nat → Int32)
def mxF (w x : Int32) : Int32 := if w < x then x else w
def oL (bang worst : Int32) (at' : Nat → Int32) (a : z_Oa) : z_Oa := (if bang < worst then a.1 else a.1 + 1, if a.2.1 = -9 ∨ worst < a.2.1 then worst else a.2.1, if bang < worst then a.2.2 else if a.1 = 0 then at' else a.2.2)
def orF (n : Nat) (fe : Nat → Int32) (turn : Nat → Int32) (bang : Int32) : Nat → Nat → (Nat → Int32) → Int32 → Int32 → z_Oa → z_Oa
  | 0, _, at', _, worst, a => oL bang worst at' a
  | m + 1, j, at', sum, worst, a => itF (fun a c => if fe c = 0 then a else if usedF j at' (nI c) = true then a else orF n fe turn bang m (j + 1) (upd at' j (nI c)) (sum + turn c) (mxF worst (absF (sum + turn c))) a) n 0 a
abbrev orG (n : Nat) (fe : Nat → Int32) (turn : Nat → Int32) (bang : Int32) (m j : Nat) (at' : Nat → Int32) (sum worst : Int32) (a : z_Oa) (c : Nat) : z_Oa := if usedF j at' (nI c) = true then a else orF n fe turn bang m (j + 1) (upd at' j (nI c)) (sum + turn c) (mxF worst (absF (sum + turn c))) a
theorem orF_S (n : Nat) (fe : Nat → Int32) (turn : Nat → Int32) (bang : Int32) (m j : Nat) (at' : Nat → Int32) (sum worst : Int32) (a : z_Oa) : orF n fe turn bang (m + 1) j at' sum worst a = itF (fun a c => if fe c = 0 then a else orG n fe turn bang m j at' sum worst a c) n 0 a := rfl
theorem orF_S2 (n : Nat) (fe : Nat → Int32) (turn : Nat → Int32) (bang : Int32) (m j : Nat) (at' : Nat → Int32) (sum worst : Int32) (a : z_Oa) : orF n fe turn bang (m + 1) j at' sum worst a = itF (fun a i => orG n fe turn bang m j at' sum worst a (sI fe n i)) (cM fe n) 0 a := by
  rw [orF_S, it_sit (fun a c => orG n fe turn bang m j at' sum worst a c) fe a n]
theorem mx_nn {w x : Int32} (h : ¬ w < 0) : ¬ mxF w x < 0 := by
  unfold mxF
  by_cases q : w < x
  · rw [if_pos q]; grind
  · rw [if_neg q]; exact h
/-- bits of numbers -/
def mk2 (num : Nat → Int32) (N j t : Nat) (at' : Nat → Int32) : Prop := t < 2 ^ 12 ∧ ∀ s, s < N → (t.testBit s = usedF j at' (num s))
theorem mk2_0 (num : Nat → Int32) (N : Nat) (at' : Nat → Int32) : mk2 num N 0 0 at' := ⟨by omega, fun s hs => by
  rw [Nat.zero_testBit]
  exact (used_no (fun ⟨i, hi, _⟩ => by omega)).symm⟩
theorem mk2_st {num : Nat → Int32} {N j t s : Nat} {at' : Nat → Int32} (h : mk2 num N j t at') (hN : N ≤ 12) (hs : s < N) (hinj : ∀ r, r < N → num r = num s → r = s) : mk2 num N (j + 1) (t ||| 2 ^ s) (upd at' j (num s)) := by
  refine ⟨Nat.or_lt_two_pow h.1 (Nat.pow_lt_pow_right (by omega) (by omega)), fun r hr => ?_⟩
  rw [bi_set, h.2 r hr]
  have key : (usedF (j + 1) (upd at' j (num s)) (num r) = true) ↔ (usedF j at' (num r) = true ∨ r = s) := by
    rw [used_iff, used_iff]
    constructor
    · intro ⟨i, hi, e⟩
      by_cases q : i = j
      · subst q
        rw [pk_us] at e
        exact Or.inr (hinj r hr e.symm)
      · rw [pk_un q] at e
        exact Or.inl ⟨i, by omega, e⟩
    · intro z
      rcases z with ⟨i, hi, e⟩ | z
      · exact ⟨i, by omega, by rw [pk_un (by omega)]; exact e⟩
      · subst z
        exact ⟨j, by omega, pk_us⟩
  cases h1 : usedF (j + 1) (upd at' j (num s)) (num r) <;> cases h2 : usedF j at' (num r) <;> by_cases h3 : r = s <;> simp_all
def oS (S : z_S) (q lb : Int32) (be at' : Nat → Int32) : z_S := z_w (z_w (z_u (z_u S 28 q) 29 lb) 52 be) 55 at'
/-- the class's kept ones, of M sitters -/
def cR (M B : Nat) (a : z_Oa) (q lb : Int32) (be : Nat → Int32) : Prop := q = nI a.1 ∧ a.1 ≤ B ∧ ((a.2.1 = -9 ∧ lb = 2147483647) ∨ (¬ a.2.1 < 0 ∧ lb = a.2.1)) ∧ (a.1 = 0 ∨ ∀ i, i < M → be i = a.2.2 i)
theorem cR_mono {M B B' : Nat} {a : z_Oa} {q lb : Int32} {be : Nat → Int32} (h : cR M B a q lb be) (hb : B ≤ B') : cR M B' a q lb be := ⟨h.1, by have := h.2.1; omega, h.2.2⟩
theorem lb_leaf {al lb worst : Int32} (hw : ¬ worst < 0) (h : (al = -9 ∧ lb = 2147483647) ∨ (¬ al < 0 ∧ lb = al)) : ¬ (if al = -9 ∨ worst < al then worst else al) < 0 ∧ (if worst < lb then worst else lb) = (if al = -9 ∨ worst < al then worst else al) := by
  rcases h with ⟨h1, h2⟩ | ⟨h1, h2⟩
  · rw [if_pos (Or.inl h1)]
    refine ⟨hw, ?_⟩
    rw [h2]
    by_cases q : worst < 2147483647
    · rw [if_pos q]
    · rw [if_neg q]
      have := le_max worst
      exact Int32.le_antisymm (nlt_ge q) (nlt_ge this)
  · have h9 : ¬ al = -9 := fun z => h1 (by rw [z]; decide)
    rw [h2]
    by_cases q : worst < al
    · rw [if_pos q, if_pos (Or.inr q)]; exact ⟨hw, rfl⟩
    · rw [if_neg q, if_neg (fun z => z.elim h9 q)]; exact ⟨h1, rfl⟩
set_option maxRecDepth 20000 in
theorem s_O_hear {d M B : Nat} {S : z_S} {Z : z_Zt} {worst bang q lb : Int32} {be at2 at' : Nat → Int32} {a : z_Oa} (hM : M ≤ 5) (hb : S.1 30 = bang) (hB : B + 1 < 2 ^ 31) (ha : cR M B a q lb be) (hat : ∀ k, k < M → at2 k = at' k) (hw : ¬ worst < 0) (hz : ∀ q' lb' be', cR M (B + 1) (oL bang worst at' a) q' lb' be' → Z none (z_H (oS S q' lb' be' at2))) : z_EvM (d + 1) 73 41 [z_p 51, .inl worst] (z_H (oS S q lb be at2)) Z := by
  subst hb
  obtain ⟨a1, a2, a3, a4⟩ := ha
  obtain ⟨l1, l2⟩ := lb_leaf hw a3
  have lbr : ((oL (S.1 30) worst at' a).2.1 = -9 ∧ (if worst < lb then worst else lb) = 2147483647) ∨ (¬ (oL (S.1 30) worst at' a).2.1 < 0 ∧ (if worst < lb then worst else lb) = (oL (S.1 30) worst at' a).2.1) := Or.inr ⟨l1, l2⟩
  generalize hlb : (if worst < lb then worst else lb) = lb' at lbr
  have main : ∀ lb2, lb2 = lb' → z_Run (d + 1) 73 (z_own 3) z_m41.2.1 z_m41.2.2.1 none (fun v h' => z_nar z_m41.2.2.2.1 v ∧ Z v h') 12 [(0, z_p 51), (1, .inl worst)] [] (z_H (oS S q lb2 be at2)) := by
    intro lb2 hlb2
    subst hlb2
    have last : ¬ S.1 30 < worst → ∀ be', (a.1 = 0 → ∀ i, i < M → be' i = at' i) → (¬ a.1 = 0 → be' = be) → z_Run (d + 1) 73 (z_own 3) z_m41.2.1 z_m41.2.2.1 none (fun v h' => z_nar z_m41.2.2.2.1 v ∧ Z v h') 42 [(0, z_p 51)] [] (z_H (oS S q lb2 be' at2)) := by
      intro h1 be' h2 h3
      refine z_Run_of z_tk41 [] 60 (fun C K R hC hK hR => ?_)
      refine hR _ _ ⟨rfl, hz (q + 1) lb2 be' ⟨?_, ?_, lbr, Or.inr (fun i hi => ?_)⟩⟩
      · show q + 1 = nI (if S.1 30 < worst then a.1 else a.1 + 1)
        rw [if_neg h1, a1, nI_succ]
      · show (if S.1 30 < worst then a.1 else a.1 + 1) ≤ B + 1
        rw [if_neg h1]; omega
      · show _ = (if S.1 30 < worst then a.2.2 else if a.1 = 0 then at' else a.2.2) i
        rw [if_neg h1]
        by_cases q0 : a.1 = 0
        · rw [if_pos q0]; exact h2 q0 i hi
        · rw [if_neg q0, h3 q0]; exact a4.resolve_left q0 i hi
    refine z_Run_of z_tk41 [(42, [0])] 60 (fun C K R hC hK hR => ?_)
    refine And.intro (fun e => ?_) (fun e => ?_)
    · have e : worst ≤ S.1 30 := e
      refine And.intro (fun e2 => ?_) (fun e2 => ?_)
      · have e2 : ¬ q = 0 := e2
        refine hK _ _ _ _ (last (nlt_le e) be (fun z => absurd (by rw [a1, z]; rfl) e2) (fun _ => rfl))
      · refine And.intro ⟨⟨by decide, by decide, by decide⟩, by decide, by decide⟩ ?_
        have e2 : q = 0 := e2
        rw [a1] at e2
        have e3 : a.1 = 0 := (nI_eq (b := 0) (by omega) (by omega)).mp e2
        exact hK _ _ _ _ (last (nlt_le e) (va_cpy at2 be 0 0 5) (fun _ i hi => by rw [cpy_at (by omega)]; exact hat i hi) (fun z => absurd e3 z))
    · have e : S.1 30 < worst := lt_nge e
      refine hR _ _ ⟨rfl, hz q lb2 be ⟨?_, ?_, lbr, ?_⟩⟩
      · show q = nI (if S.1 30 < worst then a.1 else a.1 + 1)
        rw [if_pos e]; exact a1
      · show (if S.1 30 < worst then a.1 else a.1 + 1) ≤ B + 1
        rw [if_pos e]; omega
      · show (if S.1 30 < worst then a.1 else a.1 + 1) = 0 ∨ ∀ i, i < M → be i = (if S.1 30 < worst then a.2.2 else if a.1 = 0 then at' else a.2.2) i
        rw [if_pos e, if_pos e]; exact a4
  refine z_go (c := 3) (t := z_t41) rfl rfl rfl z_tk41 [(12, [0, 1])] 60 (fun C K R hC hK hR => ?_)
  have := main (if worst < lb then worst else lb) hlb
  exact hK _ _ _ _ this
