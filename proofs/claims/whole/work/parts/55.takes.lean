/-! a statement comes: the class's trial board -/
def farB (n : Nat) (fe : Nat → Int32) (a : Int32) : Bool := (List.range n).any (fun i => decide (a < absF (fe i)))
def takB (n : Nat) (fe : Nat → Int32) (x c : Int32) : Bool := (List.range n).any (fun i => !(decide (nI i = c)) && decide (fe i = x))
theorem far_iff {n : Nat} {fe : Nat → Int32} {a : Int32} : farB n fe a = true ↔ ∃ i, i < n ∧ a < absF (fe i) := by
  unfold farB
  rw [List.any_eq_true]
  constructor
  · intro ⟨i, hi, e⟩
    exact ⟨i, List.mem_range.mp hi, of_decide_eq_true e⟩
  · intro ⟨i, hi, e⟩
    exact ⟨i, List.mem_range.mpr hi, decide_eq_true e⟩
theorem tak_iff {n : Nat} {fe : Nat → Int32} {x c : Int32} : takB n fe x c = true ↔ ∃ i, i < n ∧ ¬ nI i = c ∧ fe i = x := by
  unfold takB
  rw [List.any_eq_true]
  constructor
  · intro ⟨i, hi, e⟩
    obtain ⟨e1, e2⟩ := Bool.and_eq_true_iff.mp e
    refine ⟨i, List.mem_range.mp hi, ?_, of_decide_eq_true e2⟩
    intro z
    rw [decide_eq_true z] at e1
    cases e1
  · intro ⟨i, hi, e1, e2⟩
    refine ⟨i, List.mem_range.mpr hi, ?_⟩
    rw [decide_eq_false e1, decide_eq_true e2]
    rfl
section
variable {d n : Nat} {S : z_S} {Z : z_Zt} {a b c x : Int32}
set_option maxRecDepth 20000 in
theorem l_B1_takesLength (hc : S.1 7 = nI n) (hn : n ≤ 5) (hz0 : farB n (S.2 13) a = true → Z (some (.inl 0)) (z_H S)) (hz1 : ¬ farB n (S.2 13) a = true → Z (some (.inl 1)) (z_H (z_u (z_u S 4 a) 5 b))) : ∀ m k, k + m = n → (∀ i, i < k → ¬ a < absF (S.2 13 i)) → z_Run (d + 1) 73 (z_own 0) z_m23.2.1 z_m23.2.2.1 none (fun v h' => z_nar z_m23.2.2.2.1 v ∧ Z v h') 15 [(0, z_p 9), (1, .inl a), (2, .inl b), (3, .inl (nI k))] [] (z_H S) := by
  intro m
  induction m with
  | zero =>
    intro k hk hall
    have hk : k = n := by omega
    subst hk
    refine z_Run_of z_tk23 [] 60 (fun C K R hC hK hR => ?_)
    refine And.intro (fun _ => ?_) (fun q => absurd (show S.1 7 ≤ nI k by rw [hc]; exact nI_le (by omega) (by omega)) q)
    exact hR _ _ ⟨⟨_, rfl, rfl⟩, hz1 (fun z => by obtain ⟨i, hi, e⟩ := far_iff.mp z; exact hall i hi e)⟩
  | succ m ih =>
    intro k hk hall
    have hcl : (nI k).toNatClampNeg = k := nI_clamp (by omega)
    have hin : vp_in (nI k) 5 := vp_in_nI (by omega) (by omega)
    refine z_Run_of z_tk23 [(15, [0, 1, 2, 3])] 60 (fun C K R hC hK hR => ?_)
    refine And.intro (fun q => absurd (show S.1 7 ≤ nI k from q) (by rw [hc]; exact nI_ge (by omega) (by omega))) (fun q => ?_)
    refine And.intro hin ?_
    refine And.intro (fun e => ?_) (fun e => ?_)
    · have e : (if 0 ≤ S.2 13 (nI k).toNatClampNeg then S.2 13 (nI k).toNatClampNeg else 0 - S.2 13 (nI k).toNatClampNeg) ≤ a := e
      rw [abs_eq, hcl] at e
      have := ih (k + 1) (by omega) (fun i hi => by
        by_cases q2 : i = k
        · subst q2; exact nlt_le e
        · exact hall i (by omega))
      rw [nI_succ] at this
      exact hK _ _ _ _ this
    · have e : ¬ (if 0 ≤ S.2 13 (nI k).toNatClampNeg then S.2 13 (nI k).toNatClampNeg else 0 - S.2 13 (nI k).toNatClampNeg) ≤ a := e
      rw [abs_eq, hcl] at e
      exact hR _ _ ⟨⟨_, rfl, rfl⟩, hz0 (far_iff.mpr ⟨k, by omega, lt_nge e⟩)⟩
set_option maxRecDepth 20000 in
theorem s_B1_takesLength (hc : S.1 7 = nI n) (hn : n ≤ 5) (hz0 : (a < 1 ∨ 6 < a ∨ farB n (S.2 13) a = true) → Z (some (.inl 0)) (z_H S)) (hz1 : ¬ (a < 1 ∨ 6 < a ∨ farB n (S.2 13) a = true) → Z (some (.inl 1)) (z_H (z_u (z_u S 4 a) 5 b))) : z_EvM (d + 1) 73 23 [z_p 9, .inl a, .inl b] (z_H S) Z := by
  refine z_go (c := 0) (t := z_t23) rfl rfl rfl z_tk23 [(15, [0, 1, 2, 3])] 60 (fun C K R hC hK hR => ?_)
  refine And.intro (fun e => ?_) (fun e => And.intro (fun e2 => ?_) (fun e2 => ?_))
  · exact hR _ _ ⟨_, rfl, rfl⟩ (hz0 (Or.inl e))
  · exact hK _ _ _ _ (l_B1_takesLength (d := d) hc hn (fun h => hz0 (Or.inr (Or.inr h))) (fun h => hz1 (fun z => z.elim e (fun z => z.elim (nlt_le e2) h))) n 0 (by omega) (fun i hi => by omega))
  · exact hR _ _ ⟨_, rfl, rfl⟩ (hz0 (Or.inr (Or.inl (lt_nge e2))))
set_option maxRecDepth 20000 in
theorem s_B1_takesNotch (hz0 : (a < 0 ∨ 4 < a) → Z (some (.inl 0)) (z_H S)) (hz1 : ¬ (a < 0 ∨ 4 < a) → Z (some (.inl 1)) (z_H (z_u S 6 a))) : z_EvM (d + 1) 73 24 [z_p 9, .inl a] (z_H S) Z := by
  refine z_go (c := 0) (t := z_t24) rfl rfl rfl z_tk24 [] 100 (fun C K R hC hK hR => ?_)
  refine And.intro (fun e => ?_) (fun e => And.intro (fun e2 => ?_) (fun e2 => ?_))
  · exact hR _ _ ⟨_, rfl, rfl⟩ (hz0 (Or.inl e))
  · exact hR _ _ ⟨_, rfl, rfl⟩ (hz1 (fun z => z.elim e (nlt_le e2)))
  · exact hR _ _ ⟨_, rfl, rfl⟩ (hz0 (Or.inr (lt_nge e2)))
def tcS (S : z_S) (m : Int32) (k w l f : Nat → Int32) : z_S := z_u (z_w (z_w (z_w (z_w S 10 k) 11 w) 12 l) 13 f) 7 m
set_option maxRecDepth 20000 in
theorem s_B1_takesChild (hc : S.1 7 = nI n) (hn : n ≤ 5) (hz0 : (b < 1 ∨ 60 < b ∨ n = 5) → Z (some (.inl 0)) (z_H S)) (hz1 : ¬ (b < 1 ∨ 60 < b ∨ n = 5) → Z (some (.inl 1)) (z_H (tcS S (nI (n + 1)) (upd (S.2 10) n a) (upd (S.2 11) n b) (upd (S.2 12) n c) (upd (S.2 13) n 0)))) : z_EvM (d + 1) 73 25 [z_p 9, .inl a, .inl b, .inl c] (z_H S) Z := by
  have no : (b < 1 ∨ 60 < b ∨ n = 5) → z_Run (d + 1) 73 (z_own 0) z_m25.2.1 z_m25.2.2.1 none (fun v h' => z_nar z_m25.2.2.2.1 v ∧ Z v h') 19 [(0, z_p 9)] [] (z_H S) := by
    intro h
    refine z_Run_of z_tk25 [] 60 (fun C K R hC hK hR => ?_)
    exact hR _ _ ⟨⟨_, rfl, rfl⟩, hz0 h⟩
  refine z_go (c := 0) (t := z_t25) rfl rfl rfl z_tk25 [(19, [0])] 60 (fun C K R hC hK hR => ?_)
  refine And.intro (fun e => hK _ _ _ _ (no (Or.inl e))) (fun e => ?_)
  refine And.intro (fun e2 => hK _ _ _ _ (no (Or.inr (Or.inl e2)))) (fun e2 => ?_)
  refine And.intro (fun e3 => ?_) (fun e3 => ?_)
  · have e3 : S.1 7 < 5 := e3
    rw [hc] at e3
    have hlt := (nI_ltI (a := n) (b := 5) (by omega) (by omega)).mp e3
    have hcl : (S.1 7).toNatClampNeg = n := by rw [hc]; exact nI_clamp (by omega)
    have hin : vp_in (S.1 7) 5 := by rw [hc]; exact vp_in_nI hlt (by omega)
    have h := hz1 (fun z => z.elim e (fun z => z.elim e2 (fun z => by omega)))
    rw [nI_succ] at h
    refine And.intro hin (And.intro hin (And.intro hin (And.intro hin ?_)))
    refine hR _ _ ⟨_, rfl, rfl⟩ ?_
    show Z (some (.inl 1)) (z_H (tcS S (S.1 7 + 1) (upd (S.2 10) (S.1 7).toNatClampNeg a) (upd (S.2 11) (S.1 7).toNatClampNeg b) (upd (S.2 12) (S.1 7).toNatClampNeg c) (upd (S.2 13) (S.1 7).toNatClampNeg 0)))
    rw [hcl, hc]
    exact h
  · have e3 : ¬ S.1 7 < 5 := e3
    rw [hc] at e3
    have : ¬ n < 5 := fun z => e3 (nI_lt (a := n) (b := 5) z (by omega))
    exact hK _ _ _ _ (no (Or.inr (Or.inr (by omega))))
set_option maxRecDepth 20000 in
theorem s_B1_takesSeat (hc : S.1 7 = nI n) (hn : n ≤ 5) (hz0 : (¬ isN a n ∨ ¬ sP (S.1 4) x ∨ takB n (S.2 13) x a = true) → Z (some (.inl 0)) (z_H S)) (hz1 : ∀ k, k < n → a = nI k → sP (S.1 4) x → ¬ takB n (S.2 13) x a = true → Z (some (.inl 1)) (z_H (z_w S 13 (upd (S.2 13) k x)))) : z_EvM (d + 2) 73 26 [z_p 9, .inl a, .inl x] (z_H S) Z := by
  refine z_go (c := 0) (t := z_t26) rfl rfl rfl z_tk26 [] 100 (fun C K R hC hK hR => ?_)
  conv => whnf
  refine hC _ _ _ _ (s_B1_hasChildP hc hn (fun r1 hr1 => ?_))
  refine And.intro (fun e => ?_) (fun e => ?_)
  · exact hR _ _ ⟨_, rfl, rfl⟩ (hz0 (Or.inl (zb_f hr1 e)))
  · obtain ⟨k, hk, rfl⟩ := zb_t hr1 e
    have hcl : (nI k).toNatClampNeg = k := nI_clamp (by omega)
    conv => whnf
    refine hC _ _ _ _ (s_B1_hasSeatP (fun r2 hr2 => ?_))
    refine And.intro (fun e2 => ?_) (fun e2 => ?_)
    · exact hR _ _ ⟨_, rfl, rfl⟩ (hz0 (Or.inr (Or.inl (zb_f hr2 e2))))
    · conv => whnf
      refine hC _ _ _ _ (s_B1_isTakenByOther hc hn (fun r3 hr3 => ?_))
      refine And.intro (fun e3 => ?_) (fun e3 => ?_)
      · refine And.intro (vp_in_nI (by omega) (by omega)) ?_
        refine hR _ _ ⟨_, rfl, rfl⟩ ?_
        have h := hz1 k hk rfl (zb_t hr2 e2) (fun z => zb_f hr3 e3 (tak_iff.mp z))
        rw [← hcl] at h
        rw [hcl] at h
        show Z (some (.inl 1)) (z_H (z_w S 13 (upd (S.2 13) (nI k).toNatClampNeg x)))
        rw [hcl]
        exact h
      · exact hR _ _ ⟨_, rfl, rfl⟩ (hz0 (Or.inr (Or.inr (tak_iff.mpr (zb_t hr3 e3)))))
set_option maxRecDepth 20000 in
theorem s_B1_takesOff (hc : S.1 7 = nI n) (hn : n ≤ 5) (hz0 : ¬ isN a n → Z (some (.inl 0)) (z_H S)) (hz1 : ∀ k, k < n → a = nI k → Z (some (.inl 1)) (z_H (z_w S 13 (upd (S.2 13) k 0)))) : z_EvM (d + 2) 73 27 [z_p 9, .inl a] (z_H S) Z := by
  refine z_go (c := 0) (t := z_t27) rfl rfl rfl z_tk27 [] 100 (fun C K R hC hK hR => ?_)
  conv => whnf
  refine hC _ _ _ _ (s_B1_hasChildP hc hn (fun r1 hr1 => ?_))
  refine And.intro (fun e => ?_) (fun e => ?_)
  · obtain ⟨k, hk, rfl⟩ := zb_t hr1 e
    have hcl : (nI k).toNatClampNeg = k := nI_clamp (by omega)
    refine And.intro (vp_in_nI (by omega) (by omega)) ?_
    refine hR _ _ ⟨_, rfl, rfl⟩ ?_
    show Z (some (.inl 1)) (z_H (z_w S 13 (upd (S.2 13) (nI k).toNatClampNeg 0)))
    rw [hcl]
    exact hz1 k hk rfl
  · exact hR _ _ ⟨_, rfl, rfl⟩ (hz0 (zb_f hr1 e))
end
/-! what becomes of a told board -/
def dS1 (D : z_S) (a b : Int32) : z_S := (fun j => if j = 0 then a else if j = 1 then b else D.1 j, D.2)
def dS3 (D : z_S) (n : Nat) (a b c : Int32) : z_S := (fun j => if j = 3 then nI (n + 1) else D.1 j, fun r => if r = 0 then upd (D.2 0) n a else if r = 1 then upd (D.2 1) n b else if r = 2 then upd (D.2 2) n c else if r = 3 then upd (D.2 3) n 0 else D.2 r)
def dS4 (D : z_S) (k : Nat) (x : Int32) : z_S := dF D (upd (D.2 3) k x)
noncomputable def tkF (D : z_S) (n : Nat) (v a b c : Int32) : Option (z_S × Nat) :=
  if v = 98 then (if a < 1 ∨ 6 < a ∨ farB n (D.2 3) a = true then none else some (dS1 D a b, n))
  else if v = 116 then (if 4 < a then none else some (dV D a, n))
  else if v = 99 then (if b < 1 ∨ 60 < b ∨ n = 5 then none else some (dS3 D n a b c, n + 1))
  else if v = 115 then (if ¬ (0 ≤ a ∧ a < nI n) ∨ ¬ sP (D.1 0) (b * c) ∨ takB n (D.2 3) (b * c) a = true then none else some (dS4 D a.toNatClampNeg (b * c), n))
  else (if ¬ (0 ≤ a ∧ a < nI n) then none else some (dS4 D a.toNatClampNeg 0, n))
/-- two boards are told alike -/
def eqv (E D : z_S) : Prop := (∀ i, i < 4 → E.1 i = D.1 i) ∧ ∀ r, r < 4 → ∀ k, k < 5 → E.2 r k = D.2 r k
def btS (S E : z_S) : z_S := z_w (z_w (z_w (z_w (z_u (z_u (z_u (z_u S 4 (E.1 0)) 5 (E.1 1)) 6 (E.1 2)) 7 (E.1 3)) 10 (E.2 0)) 11 (E.2 1)) 12 (E.2 2)) 13 (E.2 3)
theorem far_cg {n : Nat} (hn : n ≤ 5) {E D : z_S} (h : eqv E D) (a : Int32) : farB n (E.2 3) a = true ↔ farB n (D.2 3) a = true := by
  rw [far_iff, far_iff]
  constructor
  · intro ⟨i, hi, e⟩; exact ⟨i, hi, by rw [← h.2 3 (by omega) i (by omega)]; exact e⟩
  · intro ⟨i, hi, e⟩; exact ⟨i, hi, by rw [h.2 3 (by omega) i (by omega)]; exact e⟩
theorem tak_cg {n : Nat} (hn : n ≤ 5) {E D : z_S} (h : eqv E D) (x c : Int32) : takB n (E.2 3) x c = true ↔ takB n (D.2 3) x c = true := by
  rw [tak_iff, tak_iff]
  constructor
  · intro ⟨i, hi, e1, e⟩; exact ⟨i, hi, e1, by rw [← h.2 3 (by omega) i (by omega)]; exact e⟩
  · intro ⟨i, hi, e1, e⟩; exact ⟨i, hi, e1, by rw [h.2 3 (by omega) i (by omega)]; exact e⟩
theorem eqv_upd {E D E' D' : z_S} {r k : Nat} {x : Int32} (h : eqv E D) (h1 : ∀ i, E'.1 i = E.1 i) (h2 : ∀ i, D'.1 i = D.1 i) (h3 : E'.2 r = upd (E.2 r) k x) (h4 : D'.2 r = upd (D.2 r) k x) (h5 : ∀ q, ¬ q = r → E'.2 q = E.2 q) (h6 : ∀ q, ¬ q = r → D'.2 q = D.2 q) : eqv E' D' := by
  refine ⟨fun i hi => by rw [h1, h2, h.1 i hi], fun q hq j hj => ?_⟩
  by_cases e : q = r
  · subst e
    rw [h3, h4]
    by_cases e2 : j = k
    · subst e2; rw [pk_us, pk_us]
    · rw [pk_un e2, pk_un e2]; exact h.2 q hq j hj
  · rw [h5 q e, h6 q e]; exact h.2 q hq j hj
theorem dS4_eqv {E D : z_S} (h : eqv E D) (k : Nat) (x : Int32) : eqv (dS4 E k x) (dS4 D k x) := eqv_upd (r := 3) (k := k) (x := x) h (fun _ => rfl) (fun _ => rfl) rfl rfl (fun q e => if_neg e) (fun q e => if_neg e)
theorem dS3_eqv {E D : z_S} (h : eqv E D) (n : Nat) (a b c : Int32) : eqv (dS3 E n a b c) (dS3 D n a b c) := by
  refine ⟨fun i hi => ?_, fun q hq j hj => ?_⟩
  · show (if i = 3 then nI (n + 1) else E.1 i) = (if i = 3 then nI (n + 1) else D.1 i)
    rw [h.1 i hi]
  · have u : ∀ r, r < 4 → ∀ y, upd (E.2 r) n y j = upd (D.2 r) n y j := by
      intro r hr y
      by_cases e : j = n
      · subst e; rw [pk_us, pk_us]
      · rw [pk_un e, pk_un e]; exact h.2 r hr j hj
    rcases q with _ | _ | _ | _ | q
    · exact u 0 (by omega) a
    · exact u 1 (by omega) b
    · exact u 2 (by omega) c
    · exact u 3 (by omega) 0
    · omega
def tkP (Z : z_Zt) (S : z_S) (pl ve : Int32) (f : Nat → Int32) : Option (z_S × Nat) → Prop
  | none => ∀ E', Z (some (.inl 0)) (z_H (tS (btS S E') pl ve f))
  | some r => ∀ E', eqv E' r.1 → Z (some (.inl 1)) (z_H (tS (btS S E') pl ve f))
set_option maxRecDepth 20000 in
theorem s_B1_takes {d n : Nat} {S E D : z_S} {Z : z_Zt} {pl ve a b c : Int32} {f : Nat → Int32} (hc : D.1 3 = nI n) (hn : n ≤ 5) (he : eqv E D) (hv : ve = 98 ∨ ve = 99 ∨ ve = 115 ∨ ve = 116 ∨ ve = 111) (hf : tdR ve f a b c) (ha : ¬ ve = 99 → 0 ≤ a ∧ a ≤ 9) (hz : tkP Z S pl ve f (tkF D n ve a b c)) : z_EvM (d + 3) 73 16 [z_p 9, .inl ve, z_p 3] (z_H (tS (btS S E) pl ve f)) Z := by
  have hc7 : (tS (btS S E) pl ve f).1 7 = nI n := (he.1 3 (by omega)).trans hc
  have iN := isN_iff (c := a) (n := n) (by omega)
  obtain ⟨f0, f1, f2⟩ := hf
  unfold tkF at hz
  refine z_go (c := 0) (t := z_t16) rfl rfl rfl z_tk16 [] 60 (fun C K R hC hK hR => ?_)
  by_cases h98 : ve = 98
  · rw [if_pos h98] at hz
    refine And.intro (fun _ => ?_) (fun e => absurd h98 e)
    refine And.intro (vp_in_iff.mpr (by decide)) ?_
    refine And.intro (vp_in_iff.mpr (by decide)) ?_
    have f1 := f1 (Or.inl h98)
    conv => whnf
    refine hC _ _ _ _ (s_B1_takesLength (S := tS (btS S E) pl ve f) hc7 hn (fun h => ?_) (fun h => ?_))
    · have h : a < 1 ∨ 6 < a ∨ farB n (D.2 3) a = true := by
        replace h : (f 0 < 1 ∨ 6 < f 0 ∨ farB n (E.2 3) (f 0) = true) := h
        rw [f0] at h
        exact h.imp id (Or.imp id (far_cg hn he a).mp)
      rw [if_pos h] at hz
      exact hR _ _ ⟨_, rfl, rfl⟩ (hz E)
    · have h : ¬ (a < 1 ∨ 6 < a ∨ farB n (D.2 3) a = true) := by
        replace h : ¬ (f 0 < 1 ∨ 6 < f 0 ∨ farB n (E.2 3) (f 0) = true) := h
        rw [f0] at h
        exact fun z => h (z.imp id (Or.imp id (far_cg hn he a).mpr))
      rw [if_neg h] at hz
      refine hR _ _ ⟨_, rfl, rfl⟩ ?_
      show Z (some (.inl 1)) (z_H (tS (btS S (dS1 E (f 0) (f 1))) pl ve f))
      rw [f0, f1]
      refine hz _ ⟨fun i hi => ?_, fun r hr k hk => he.2 r hr k hk⟩
      show (if i = 0 then a else if i = 1 then b else E.1 i) = (if i = 0 then a else if i = 1 then b else D.1 i)
      rw [he.1 i hi]
  · rw [if_neg h98] at hz
    refine And.intro (fun e => absurd e h98) (fun _ => ?_)
    by_cases h99 : ve = 99
    · rw [if_neg (by rw [h99]; decide), if_pos h99] at hz
      refine And.intro (fun _ => ?_) (fun e => absurd h99 e)
      refine And.intro (vp_in_iff.mpr (by decide)) ?_
      refine And.intro (vp_in_iff.mpr (by decide)) ?_
      refine And.intro (vp_in_iff.mpr (by decide)) ?_
      have f1 := f1 (Or.inr (Or.inl h99))
      have f2 := f2 (Or.inl h99)
      conv => whnf
      refine hC _ _ _ _ (s_B1_takesChild (S := tS (btS S E) pl ve f) hc7 hn (fun h => ?_) (fun h => ?_))
      · have h : b < 1 ∨ 60 < b ∨ n = 5 := by
          replace h : (f 1 < 1 ∨ 60 < f 1 ∨ n = 5) := h
          rw [f1] at h
          exact h
        rw [if_pos h] at hz
        exact hR _ _ ⟨_, rfl, rfl⟩ (hz E)
      · have h : ¬ (b < 1 ∨ 60 < b ∨ n = 5) := by
          replace h : ¬ (f 1 < 1 ∨ 60 < f 1 ∨ n = 5) := h
          rw [f1] at h
          exact h
        rw [if_neg h] at hz
        refine hR _ _ ⟨_, rfl, rfl⟩ ?_
        show Z (some (.inl 1)) (z_H (tS (btS S (dS3 E n (f 0) (f 1) (f 2))) pl ve f))
        rw [f0, f1, f2]
        exact hz _ (dS3_eqv he n a b c)
    · refine And.intro (fun e => absurd e h99) (fun _ => ?_)
      have ha := ha h99
      by_cases h115 : ve = 115
      · rw [if_neg (by rw [h115]; decide), if_neg h99, if_pos h115] at hz
        refine And.intro (fun _ => ?_) (fun e => absurd h115 e)
        refine And.intro (vp_in_iff.mpr (by decide)) ?_
        refine And.intro (vp_in_iff.mpr (by decide)) ?_
        refine And.intro (vp_in_iff.mpr (by decide)) ?_
        have f1 := f1 (Or.inr (Or.inr h115))
        have f2 := f2 (Or.inr h115)
        conv => whnf
        refine hC _ _ _ _ (s_B1_takesSeat (S := tS (btS S E) pl ve f) hc7 hn (fun h => ?_) (fun k hk h1 h2 h3 => ?_))
        · replace h : (¬ isN (f 0) n ∨ ¬ sP (E.1 0) (f 1 * f 2) ∨ takB n (E.2 3) (f 1 * f 2) (f 0) = true) := h
          rw [f0, f1, f2, he.1 0 (by omega)] at h
          have h : ¬ (0 ≤ a ∧ a < nI n) ∨ ¬ sP (D.1 0) (b * c) ∨ takB n (D.2 3) (b * c) a = true := h.imp (fun z w => z (iN.mp w)) (Or.imp id (tak_cg hn he _ _).mp)
          rw [if_pos h] at hz
          exact hR _ _ ⟨_, rfl, rfl⟩ (hz E)
        · replace h1 : f 0 = nI k := h1
          replace h2 : sP (E.1 0) (f 1 * f 2) := h2
          replace h3 : ¬ takB n (E.2 3) (f 1 * f 2) (f 0) = true := h3
          rw [f0] at h1
          rw [f1, f2, he.1 0 (by omega)] at h2
          rw [f0, f1, f2] at h3
          have h : ¬ (¬ (0 ≤ a ∧ a < nI n) ∨ ¬ sP (D.1 0) (b * c) ∨ takB n (D.2 3) (b * c) a = true) := by
            intro z
            rcases z with z | z | z
            · exact z (iN.mpr ⟨k, hk, h1⟩)
            · exact z h2
            · exact h3 ((tak_cg hn he _ _).mpr z)
          rw [if_neg h, h1, nI_clamp (by omega)] at hz
          refine hR _ _ ⟨_, rfl, rfl⟩ ?_
          show Z (some (.inl 1)) (z_H (tS (btS S (dS4 E k (f 1 * f 2))) pl ve f))
          rw [f1, f2]
          exact hz _ (dS4_eqv he k _)
      · refine And.intro (fun e => absurd e h115) (fun _ => ?_)
        by_cases h116 : ve = 116
        · rw [if_pos h116] at hz
          refine And.intro (fun _ => ?_) (fun e => absurd h116 e)
          refine And.intro (vp_in_iff.mpr (by decide)) ?_
          conv => whnf
          refine hC _ _ _ _ (s_B1_takesNotch (S := tS (btS S E) pl ve f) (fun h => ?_) (fun h => ?_))
          · replace h : (f 0 < 0 ∨ 4 < f 0) := h
            rw [f0] at h
            have h : 4 < a := h.resolve_left (nlt_le ha.1)
            rw [if_pos h] at hz
            exact hR _ _ ⟨_, rfl, rfl⟩ (hz E)
          · replace h : ¬ (f 0 < 0 ∨ 4 < f 0) := h
            rw [f0] at h
            have h : ¬ 4 < a := fun z => h (Or.inr z)
            rw [if_neg h] at hz
            refine hR _ _ ⟨_, rfl, rfl⟩ ?_
            show Z (some (.inl 1)) (z_H (tS (btS S (dV E (f 0))) pl ve f))
            rw [f0]
            refine hz _ ⟨fun i hi => ?_, fun r hr k hk => he.2 r hr k hk⟩
            show (if i = 2 then a else E.1 i) = (if i = 2 then a else D.1 i)
            rw [he.1 i hi]
        · rw [if_neg h116, if_neg h99, if_neg h115] at hz
          refine And.intro (fun e => absurd e h116) (fun _ => ?_)
          refine And.intro (vp_in_iff.mpr (by decide)) ?_
          conv => whnf
          refine hC _ _ _ _ (s_B1_takesOff (S := tS (btS S E) pl ve f) hc7 hn (fun h => ?_) (fun k hk h1 => ?_))
          · replace h : ¬ isN (f 0) n := h
            rw [f0] at h
            have h : ¬ (0 ≤ a ∧ a < nI n) := fun w => h (iN.mp w)
            rw [if_pos h] at hz
            exact hR _ _ ⟨_, rfl, rfl⟩ (hz E)
          · replace h1 : f 0 = nI k := h1
            rw [f0] at h1
            rw [if_neg (fun z => z (iN.mpr ⟨k, hk, h1⟩)), h1, nI_clamp (by omega)] at hz
            refine hR _ _ ⟨_, rfl, rfl⟩ ?_
            show Z (some (.inl 1)) (z_H (tS (btS S (dS4 E k 0)) pl ve f))
            exact hz _ (dS4_eqv he k _)
