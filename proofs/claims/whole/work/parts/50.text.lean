/-! the text of the class: statements -/
abbrev z_RS : Type := Nat ⊕ (Nat × Int32 × Int32 × Int32)
def rD (g : Nat → Int32) (p : Nat) (k : Int32 → Nat → z_RS) : z_RS := if isD (g p) then k (g p - 48) (p + 1) else .inl p
def rN (g : Nat → Int32) (p : Nat) (k : Int32 → Nat → z_RS) : z_RS := if isD (g p) then k (nmF g p) (nmN g p) else .inl p
def rC (g : Nat → Int32) (c : Int32) (p : Nat) (k : Nat → z_RS) : z_RS := if g p = c then k (p + 1) else .inl p
def rK (g : Nat → Int32) (p : Nat) (k : Int32 → Nat → z_RS) : z_RS := if kdF (g p) = -2 then .inl p else k (kdF (g p)) (p + 1)
def rS (g : Nat → Int32) (p : Nat) (k : Int32 → Nat → z_RS) : z_RS := if sdF (g p) = -2 then .inl p else k (sdF (g p)) (p + 1)
def rsF (g : Nat → Int32) (p : Nat) : z_RS :=
  if g p = 98 then rD g (p + 1) (fun a p => rC g 44 p (fun p => rN g p (fun b p => rC g 59 p (fun p => .inr (p, a, b, 0)))))
  else if g p = 99 then rK g (p + 1) (fun a p => rN g p (fun b p => rC g 44 p (fun p => rD g p (fun c p => rC g 59 p (fun p => .inr (p, a, b, c))))))
  else if g p = 115 then rD g (p + 1) (fun a p => rS g p (fun b p => rD g p (fun c p => rC g 59 p (fun p => .inr (p, a, b, c)))))
  else if g p = 116 ∨ g p = 111 then rD g (p + 1) (fun a p => rC g 59 p (fun p => .inr (p, a, 0, 0)))
  else .inl p
def vlF (part c : Int32) : Int32 := if part = 68 then dgF c else if part = 75 then kdF c else if part = 83 then sdF c else if c = part then c else -2
set_option maxRecDepth 20000 in
theorem s_T_valueOf {d nh : Nat} {h : List z_C} {Z : z_Zt} {part c : Int32} (hz : Z (some (.inl (vlF part c))) h) : z_EvM (d + 2) nh 59 [.inl part, .inl c] h Z := by
  unfold vlF at hz
  refine z_go (c := 6) (t := z_t59) rfl rfl rfl z_tk59 [] 100 (fun C K R hC hK hR => ?_)
  refine And.intro (fun e => ?_) (fun e => And.intro (fun e2 => ?_) (fun e2 => And.intro (fun e3 => ?_) (fun e3 => And.intro (fun e4 => ?_) (fun e4 => ?_))))
  · rw [if_pos e] at hz
    conv => whnf
    refine hC _ _ _ _ (s_T_digitOf ?_)
    exact hR _ _ ⟨_, rfl, rfl⟩ hz
  · rw [if_neg e, if_pos e2] at hz
    conv => whnf
    refine hC _ _ _ _ (s_T_kindOf (fun r hr => ?_))
    subst hr
    exact hR _ _ ⟨_, rfl, rfl⟩ hz
  · rw [if_neg e, if_neg e2, if_pos e3] at hz
    conv => whnf
    refine hC _ _ _ _ (s_T_sideOfLetter ?_)
    exact hR _ _ ⟨_, rfl, rfl⟩ hz
  · rw [if_neg e, if_neg e2, if_neg e3, if_neg e4] at hz
    exact hR _ _ ⟨_, rfl, rfl⟩ hz
  · rw [if_neg e, if_neg e2, if_neg e3, if_pos e4] at hz
    exact hR _ _ ⟨_, rfl, rfl⟩ hz
def fmN (c : Int32) : Nat := if c = 98 then 0 else if c = 99 then 2 else if c = 111 then 1 else if c = 115 then 3 else if c = 116 then 1 else 4
set_option maxRecDepth 20000 in
theorem s_T_formOf {d nh : Nat} {h : List z_C} {Z : z_Zt} {c : Int32} (hz : Z (some (.inr (some (1000000 + fmN c)))) h) : z_EvM (d + 1) nh 55 [.inl c] h Z := by
  unfold fmN at hz
  refine z_go (c := 6) (t := z_t55) rfl rfl rfl z_tk55 [] 100 (fun C K R hC hK hR => ?_)
  refine And.intro (fun e => ?_) (fun e => And.intro (fun e2 => ?_) (fun e2 => And.intro (fun e3 => ?_) (fun e3 => And.intro (fun e4 => ?_) (fun e4 => And.intro (fun e5 => ?_) (fun e5 => ?_)))))
  · rw [if_pos e] at hz
    exact hR _ _ ⟨_, rfl⟩ hz
  · rw [if_neg e, if_pos e2] at hz
    exact hR _ _ ⟨_, rfl⟩ hz
  · rw [if_neg e, if_neg e2, if_pos e3] at hz
    exact hR _ _ ⟨_, rfl⟩ hz
  · rw [if_neg e, if_neg e2, if_neg e3, if_pos e4] at hz
    exact hR _ _ ⟨_, rfl⟩ hz
  · rw [if_neg e, if_neg e2, if_neg e3, if_neg e4, if_pos e5] at hz
    exact hR _ _ ⟨_, rfl⟩ hz
  · rw [if_neg e, if_neg e2, if_neg e3, if_neg e4, if_neg e5] at hz
    exact hR _ _ ⟨_, rfl⟩ hz
section
variable {d t p : Nat} {S : z_S} {Z : z_Zt} {ve : Int32} {f : Nat → Int32}
set_option maxRecDepth 20000 in
theorem s_T_readSign {part : Int32} (hpart : narrow .char (.int part) = .int part) (ht : S.1 34 = nI t) (ht8 : t ≤ 80) (hp8 : p ≤ 900) (hz : Z (some (.inl (vlF part (gF (S.2 2) t p)))) (z_H (tS S (nI (if vlF part (gF (S.2 2) t p) = -2 then p else p + 1)) ve f))) : z_EvM (d + 3) 73 58 [z_p 1, .inl part] (z_H (tS S (nI p) ve f)) Z := by
  generalize hv : vlF part (gF (S.2 2) t p) = val at hz
  refine z_go (c := 6) (t := z_t58) rfl rfl rfl z_tk58 [(25, [2])] 60 (fun C K R hC hK hR => ?_)
  conv => whnf
  refine hC _ _ _ _ (s_T_here (S := tS S (nI p) ve f) (p := p) ht ht8 rfl (by omega) ?_)
  conv => whnf
  refine hC _ _ _ _ (s_T_valueOf (h := z_H (tS S (nI p) ve f)) ?_)
  refine And.intro (fun e => ?_) (fun e => ?_)
  · have e : val = -2 := hv.symm.trans e
    rw [if_pos e] at hz
    refine hK _ _ _ _ ?_
    refine z_Run_of z_tk58 [] 60 (fun C K R hC hK hR => ?_)
    refine hR _ _ ⟨⟨_, rfl, rfl⟩, ?_⟩
    have hv2 : vlF part (gF ((tS S (nI p) ve f).2 2) t p) = val := hv
    rw [hv2]
    exact hz
  · have e : ¬ val = -2 := fun z => e (hv.trans z)
    rw [if_neg e, nI_succ, ← tS_pl (pl := nI p), ← hv] at hz
    refine hK _ _ _ _ ?_
    refine z_Run_of z_tk58 [] 60 (fun C K R hC hK hR => ?_)
    exact hR _ _ ⟨⟨_, rfl, rfl⟩, hz⟩
abbrev lpT (d : Nat) (Z : z_Zt) (q v i : Nat) (S' : z_S) : Prop := z_Run (d + 10) 73 (z_own 6) z_m54.2.1 z_m54.2.2.1 none (fun v h' => z_nar z_m54.2.2.2.1 v ∧ Z v h') 39 [(0, z_p 1), (1, .inr (some (1000000 + q))), (2, .inl (nI v)), (3, .inl (nI i))] [] (z_H S')
set_option maxRecDepth 20000 in
theorem r_T_step {q v i p' : Nat} {val c : Int32} (hq : q < 5) (hi : i < z_len.getD q 0) (hl : z_len.getD q 0 ≤ 5) (hc : chS q i = c) (hcn : narrow .char (.int c) = .int c) (hv3 : v ≤ 3) (hv : ¬ (c = 44 ∨ c = 59) → v < 3) (ht : S.1 34 = nI t) (ht8 : t ≤ 80) (hp8 : p ≤ t) (h78 : c = 78 → val = nmF (gF (S.2 2) t) p ∧ p' = nmN (gF (S.2 2) t) p) (hn78 : ¬ c = 78 → val = vlF c (gF (S.2 2) t p) ∧ p' = (if vlF c (gF (S.2 2) t p) = -2 then p else p + 1))
    (hfail : val = -2 → Z (some (.inl 0)) (z_H (tS S (nI p') ve f))) (hskip : ¬ val = -2 → (c = 44 ∨ c = 59) → lpT d Z q v (i + 1) (tS S (nI p') ve f)) (hput : ¬ val = -2 → ¬ (c = 44 ∨ c = 59) → lpT d Z q (v + 1) (i + 1) (tS S (nI p') ve (upd f v val))) : lpT d Z q v i (tS S (nI p) ve f) := by
  have hcl : (nI v).toNatClampNeg = v := nI_clamp (by omega)
  have hqq : 1000000 ≤ 1000000 + q ∧ 1000000 + q < 1000005 := ⟨by omega, by omega⟩
  have tail : z_Run (d + 10) 73 (z_own 6) z_m54.2.1 z_m54.2.2.1 none (fun v h' => z_nar z_m54.2.2.2.1 v ∧ Z v h') 76 [(0, z_p 1), (1, .inr (some (1000000 + q))), (2, .inl (nI v)), (3, .inl (nI i)), (4, .inl c), (5, .inl val)] [] (z_H (tS S (nI p') ve f)) := by
    have skip : ¬ val = -2 → (c = 44 ∨ c = 59) → z_Run (d + 10) 73 (z_own 6) z_m54.2.1 z_m54.2.2.1 none (fun v h' => z_nar z_m54.2.2.2.1 v ∧ Z v h') 119 [(0, z_p 1), (1, .inr (some (1000000 + q))), (2, .inl (nI v)), (3, .inl (nI i))] [] (z_H (tS S (nI p') ve f)) := by
      intro h1 h2
      have := hskip h1 h2
      unfold lpT at this
      rw [nI_succ] at this
      refine z_Run_of z_tk54 [(39, [0, 1, 2, 3])] 60 (fun C K R hC hK hR => ?_)
      exact hK _ _ _ _ this
    refine z_Run_of z_tk54 [(39, [0, 1, 2, 3]), (119, [0, 1, 2, 3])] 60 (fun C K R hC hK hR => ?_)
    refine And.intro (fun e => ?_) (fun e => ?_)
    · refine And.intro (fun e2 => hK _ _ _ _ (skip e (Or.inl e2))) (fun e2 => ?_)
      refine And.intro (fun e3 => hK _ _ _ _ (skip e (Or.inr e3))) (fun e3 => ?_)
      refine And.intro (fun e4 => absurd e4 (show ¬ (3 : Int32) ≤ nI v from nI_ge (a := v) (b := 3) (hv (fun z => z.elim e2 e3)) (by omega))) (fun _ => ?_)
      refine And.intro (vp_in_nI (hv (fun z => z.elim e2 e3)) (by omega)) ?_
      have := hput e (fun z => z.elim e2 e3)
      unfold lpT at this
      rw [nI_succ i, nI_succ v] at this
      refine hK _ _ _ _ ?_
      refine z_Run_of z_tk54 [(39, [0, 1, 2, 3])] 60 (fun C K R hC hK hR => ?_)
      refine hK _ _ _ _ ?_
      rw [← hcl] at this
      rw [hcl] at this
      show z_Run (d + 10) 73 (z_own 6) z_m54.2.1 z_m54.2.2.1 none (fun v h' => z_nar z_m54.2.2.2.1 v ∧ Z v h') 39 [(0, z_p 1), (1, .inr (some (1000000 + q))), (2, .inl (nI v + 1)), (3, .inl (nI i + 1))] [] (z_H (tS S (nI p') ve (upd f (nI v).toNatClampNeg val)))
      rw [hcl]
      exact this
    · exact hR _ _ ⟨⟨_, rfl, rfl⟩, hfail e⟩
  refine z_Run_of z_tk54 [(76, [0, 1, 2, 3, 4, 5])] 60 (fun C K R hC hK hR => ?_)
  refine And.intro hqq ?_
  conv => whnf
  refine hC _ _ _ _ (s_S_length (h := z_H (tS S (nI p) ve f)) hq ?_)
  refine And.intro (fun e => absurd e (nI_ge hi (by omega))) (fun _ => ?_)
  refine And.intro hqq ?_
  conv => whnf
  refine hC _ _ _ _ (s_S_charAt (h := z_H (tS S (nI p) ve f)) hq hi ?_)
  refine And.intro (fun e => ?_) (fun e => ?_)
  · have e1 : ¬ c = 78 := fun z => e (hc.trans z)
    obtain ⟨w1, w2⟩ := hn78 e1
    rw [w1, w2] at tail
    rw [← hc] at tail hcn
    conv => whnf
    refine hC _ _ _ _ (s_T_readSign (t := t) (p := p) hcn ht ht8 (by omega) ?_)
    exact hK _ _ _ _ tail
  · have e1 : c = 78 := hc.symm.trans e
    obtain ⟨w1, w2⟩ := h78 e1
    rw [w1, w2] at tail
    rw [← hc] at tail
    conv => whnf
    refine hC _ _ _ _ (s_T_readNumber (t := t) (p := p) ht ht8 hp8 ?_)
    exact hK _ _ _ _ tail
set_option maxRecDepth 20000 in
theorem r_T_end {q v i : Nat} (hq : q < 5) (hi : i = z_len.getD q 0) (hl : z_len.getD q 0 ≤ 5) (hz : Z (some (.inl 1)) (z_H S)) : lpT d Z q v i S := by
  have hqq : 1000000 ≤ 1000000 + q ∧ 1000000 + q < 1000005 := ⟨by omega, by omega⟩
  refine z_Run_of z_tk54 [] 60 (fun C K R hC hK hR => ?_)
  refine And.intro hqq ?_
  conv => whnf
  refine hC _ _ _ _ (s_S_length (h := z_H S) hq ?_)
  refine And.intro (fun _ => ?_) (fun e => absurd (by rw [hi]; exact nI_le (Nat.le_refl _) (by omega)) e)
  exact hR _ _ ⟨⟨_, rfl, rfl⟩, hz⟩
end
