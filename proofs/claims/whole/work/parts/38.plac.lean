/-! placings: bits; the class's going through -/
theorem bi_or (a b : Nat) : nI a ||| nI b = nI (a ||| b) := by
  apply Int32.toBitVec_inj.1
  show BitVec.ofNat 32 a ||| BitVec.ofNat 32 b = BitVec.ofNat 32 (a ||| b)
  apply BitVec.eq_of_getLsbD_eq
  intro i hi
  simp [hi]
theorem bi_set (n j i : Nat) : (n ||| 2 ^ j).testBit i = (n.testBit i || decide (i = j)) := by
  rw [Nat.testBit_or]
  by_cases h : j = i
  · subst h; simp
  · have h2 : ¬ i = j := fun e => h e.symm
    first | (simp [Nat.testBit_two_pow, h, h2]; done) | (simp [Nat.testBit_two_pow_of_ne h, h2]; done)
theorem bi_sh : ∀ n : Fin 32, ((nI n.val &&& 31).toBitVec.smod 32).toNat = n.val := by decide +kernel
theorem bi_tst {t s : Nat} (ht : t < 2 ^ 31) (hs : s < 31) : ((nI t >>> (nI s &&& 31)) &&& 1 = 0) ↔ t.testBit s = false := by
  rw [pk_shrN ht _ s (bi_sh ⟨s, by omega⟩), pk_andN (by have := Nat.div_le_self t (2 ^ s); omega) 1 (by decide), Nat.testBit_eq_decide_div_mod_eq]
  have h2 : t / 2 ^ s % 2 ^ 1 < 2 := Nat.mod_lt _ (by omega)
  constructor
  · intro h
    have := (nI_eq (b := 0) (by omega) (by omega)).mp h
    rw [decide_eq_false_iff_not]
    omega
  · intro h
    rw [decide_eq_false_iff_not] at h
    have e : t / 2 ^ s % 2 ^ 1 = 0 := by omega
    rw [e]
    rfl
theorem bi_one : ∀ s : Fin 30, (1 : Int32) <<< (nI s.val &&& 31) = nI (2 ^ s.val) := by decide +kernel
theorem sv_inj_all : ∀ L : Fin 7, ∀ s t : Fin 13, s.val < 2 * L.val → t.val < 2 * L.val → seatF L.val s.val = seatF L.val t.val → s = t := by decide +kernel
theorem sv_inj {L s t : Nat} (hL : L ≤ 6) (hs : s < 2 * L) (ht : t < 2 * L) (h : seatF L s = seatF L t) : s = t := by
  have := sv_inj_all ⟨L, by omega⟩ ⟨s, by omega⟩ ⟨t, by omega⟩ hs ht h
  exact congrArg Fin.val this
/-- the bits of what is taken -/
def mkP (L c t : Nat) (at' : Nat → Int32) : Prop := t < 2 ^ 12 ∧ ∀ s, s < 2 * L → (t.testBit s = usedF c at' (seatF L s))
theorem mkP_st {L c t s : Nat} {at' : Nat → Int32} (h : mkP L c t at') (hL : L ≤ 6) (hs : s < 2 * L) : mkP L (c + 1) (t ||| 2 ^ s) (upd at' c (seatF L s)) := by
  refine ⟨Nat.or_lt_two_pow h.1 (Nat.pow_lt_pow_right (by omega) (by omega)), fun r hr => ?_⟩
  rw [bi_set, h.2 r hr]
  have key : (usedF (c + 1) (upd at' c (seatF L s)) (seatF L r) = true) ↔ (usedF c at' (seatF L r) = true ∨ r = s) := by
    rw [used_iff, used_iff]
    constructor
    · intro ⟨i, hi, e⟩
      by_cases q : i = c
      · subst q
        rw [pk_us] at e
        exact Or.inr (sv_inj hL hr hs e.symm)
      · rw [pk_un q] at e
        exact Or.inl ⟨i, by omega, e⟩
    · intro z
      rcases z with ⟨i, hi, e⟩ | z
      · exact ⟨i, by omega, by rw [pk_un (by omega)]; exact e⟩
      · subst z
        exact ⟨c, by omega, pk_us⟩
  by_cases q : usedF (c + 1) (upd at' c (seatF L s)) (seatF L r) = true
  · rw [q]
    rcases key.mp q with z | z
    · rw [z]; rfl
    · rw [decide_eq_true z]; exact Bool.or_true _
  · have q1 : usedF (c + 1) (upd at' c (seatF L s)) (seatF L r) = false := by
      cases h9 : usedF (c + 1) (upd at' c (seatF L s)) (seatF L r)
      · rfl
      · exact absurd h9 q
    have z1 : ¬ usedF c at' (seatF L r) = true := fun z => q (key.mpr (Or.inl z))
    have z2 : ¬ r = s := fun z => q (key.mpr (Or.inr z))
    have z3 : usedF c at' (seatF L r) = false := by
      cases h9 : usedF c at' (seatF L r)
      · rfl
      · exact absurd h9 z1
    rw [q1, z3, decide_eq_false z2]
    rfl
def itF {A : Type} (g : A → Nat → A) : Nat → Nat → A → A
  | 0, _, a => a
  | k + 1, s, a => itF g k (s + 1) (g a s)
theorem it_fold {A : Type} (g : A → Nat → A) : ∀ k s a, (List.range' s k).foldl g a = itF g k s a := by
  intro k
  induction k with
  | zero => intro s a; rfl
  | succ k ih =>
    intro s a
    rw [List.range'_succ, List.foldl_cons, ih, itF]
theorem it_range {A : Type} (g : A → Nat → A) (k : Nat) (a : A) : (List.range k).foldl g a = itF g k 0 a := by
  rw [List.range_eq_range', it_fold]
abbrev plG (L : Nat) (turn : Nat → Int32 → Int32) (m c : Nat) (at' : Nat → Int32) (sum : Int32) : z_Pa → Nat → z_Pa := fun a s => if usedF c at' (seatF L s) = true then a else plF L turn m (c + 1) (upd at' c (seatF L s)) (sum + turn c (seatF L s)) a
theorem plF_S (L : Nat) (turn : Nat → Int32 → Int32) (m c : Nat) (at' : Nat → Int32) (sum : Int32) (a : z_Pa) : plF L turn (m + 1) c at' sum a = itF (plG L turn m c at' sum) (2 * L) 0 a := by
  rw [plF, it_range]
theorem plF_0 (L : Nat) (turn : Nat → Int32 → Int32) (c : Nat) (at' : Nat → Int32) (sum : Int32) (a : z_Pa) : plF L turn 0 c at' sum a = leafF sum at' a := rfl
theorem itF_S {A : Type} (g : A → Nat → A) (k s : Nat) (a : A) : itF g (k + 1) s a = itF g k (s + 1) (g a s) := rfl
def pS (S : z_S) (lv le : Int32) (be at' : Nat → Int32) : z_S := z_w (z_w (z_u (z_u S 23 lv) 24 le) 42 be) 43 at'
theorem abs_0 {x : Int32} : absF x = 0 ↔ x = 0 := by
  unfold absF
  constructor
  · intro h
    split at h <;> grind
  · intro h
    subst h
    rfl
/-- the kept ones are those of a -/
def aR (n : Nat) (a : z_Pa) (lv le : Int32) (be : Nat → Int32) : Prop := lv = a.1 ∧ le = a.2.1 ∧ (a.2.1 = -9 ∨ ∀ k, k < n → be k = a.2.2 k)
set_option maxRecDepth 20000 in
theorem s_P_weigh {d n : Nat} {S : z_S} {Z : z_Zt} {sum lv le : Int32} {be at2 at' : Nat → Int32} {a : z_Pa} (hn : n ≤ 5) (ha : aR n a lv le be) (hat : ∀ k, k < n → at2 k = at' k) (hz : ∀ lv' le' be', aR n (leafF sum at' a) lv' le' be' → Z none (z_H (pS S lv' le' be' at2))) : z_EvM (d + 1) 73 45 [z_p 41, .inl sum] (z_H (pS S lv le be at2)) Z := by
  obtain ⟨a1, a2, a3⟩ := ha
  have take : ∀ l', l' = (if sum = 0 then a.1 + 1 else a.1) → (a.2.1 = -9 ∨ absF sum < a.2.1) → Z none (z_H (pS S l' (absF sum) (va_cpy at2 be 0 0 5) at2)) := by
    intro l' h1 h2
    refine hz _ _ _ ⟨h1, ?_, Or.inr (fun k hk => ?_)⟩
    · show absF sum = (if a.2.1 = -9 ∨ absF sum < a.2.1 then absF sum else a.2.1)
      rw [if_pos h2]
    · show _ = (if a.2.1 = -9 ∨ absF sum < a.2.1 then at' else a.2.2) k
      rw [if_pos h2, cpy_at (by omega)]
      exact hat k hk
  have keep : ∀ l', l' = (if sum = 0 then a.1 + 1 else a.1) → ¬ (a.2.1 = -9 ∨ absF sum < a.2.1) → Z none (z_H (pS S l' le be at2)) := by
    intro l' h1 h2
    refine hz _ _ _ ⟨h1, ?_, Or.inr (fun k hk => ?_)⟩
    · show le = (if a.2.1 = -9 ∨ absF sum < a.2.1 then absF sum else a.2.1)
      rw [if_neg h2]; exact a2
    · show _ = (if a.2.1 = -9 ∨ absF sum < a.2.1 then at' else a.2.2) k
      rw [if_neg h2]; exact a3.resolve_left (fun z => h2 (Or.inl z)) k hk
  have tail : ∀ l', l' = (if sum = 0 then a.1 + 1 else a.1) → z_Run (d + 1) 73 (z_own 4) z_m45.2.1 z_m45.2.2.1 none (fun v h' => z_nar z_m45.2.2.2.1 v ∧ Z v h') 19 [(0, z_p 41), (2, .inl (absF sum))] [] (z_H (pS S l' le be at2)) := by
    intro l' hl'
    refine z_Run_of z_tk45 [(36, [0, 2])] 60 (fun C K R hC hK hR => ?_)
    have store : (a.2.1 = -9 ∨ absF sum < a.2.1) → z_Run (d + 1) 73 (z_own 4) z_m45.2.1 z_m45.2.2.1 none (fun v h' => z_nar z_m45.2.2.2.1 v ∧ Z v h') 36 [(0, z_p 41), (2, .inl (absF sum))] [] (z_H (pS S l' le be at2)) := by
      intro h
      refine z_Run_of z_tk45 [] 60 (fun C K R hC hK hR => ?_)
      refine And.intro ⟨⟨by decide, by decide, by decide⟩, by decide, by decide⟩ ?_
      exact hR _ _ ⟨rfl, take l' hl' h⟩
    refine And.intro (fun e => ?_) (fun e => And.intro (fun e2 => ?_) (fun e2 => ?_))
    · have e : le = -9 := e
      exact hK _ _ _ _ (store (Or.inl (a2.symm.trans e)))
    · have e : ¬ le = -9 := e
      have e2 : le ≤ absF sum := e2
      exact hR _ _ ⟨rfl, keep l' hl' (fun z => by
        rw [← a2] at z
        rcases z with z | z
        · exact e z
        · exact nlt_le e2 z)⟩
    · have e2 : ¬ le ≤ absF sum := e2
      exact hK _ _ _ _ (store (Or.inr (by rw [← a2]; exact lt_nge e2)))
  refine z_go (c := 4) (t := z_t45) rfl rfl rfl z_tk45 [(19, [0, 2])] 60 (fun C K R hC hK hR => ?_)
  refine And.intro (fun e => ?_) (fun e => ?_)
  · have e : ¬ (if 0 ≤ sum then sum else 0 - sum) = 0 := e
    rw [abs_eq, abs_0] at e
    have := tail lv (by rw [if_neg e]; exact a1)
    rw [← abs_eq] at this
    exact hK _ _ _ _ this
  · have e : (if 0 ≤ sum then sum else 0 - sum) = 0 := e
    rw [abs_eq, abs_0] at e
    have := tail (lv + 1) (by rw [if_pos e, a1])
    rw [← abs_eq] at this
    exact hK _ _ _ _ this
