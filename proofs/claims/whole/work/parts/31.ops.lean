/-! rules, parting -/
def fitB (u : Nat) (l r t : Nat → Int32) (rule : Int32) : Bool := (List.range u).all (fun i => guessF rule (l i) (r i) = t i)
theorem fitB_y {u : Nat} {l r t : Nat → Int32} {rule : Int32} (h : ∀ i, i < u → guessF rule (l i) (r i) = t i) : fitB u l r t rule = true := by
  unfold fitB
  rw [List.all_eq_true]
  exact fun i hi => decide_eq_true (h i (List.mem_range.mp hi))
theorem fitB_n {u i : Nat} {l r t : Nat → Int32} {rule : Int32} (hi : i < u) (h : ¬ guessF rule (l i) (r i) = t i) : ¬ fitB u l r t rule = true := by
  unfold fitB
  rw [List.all_eq_true]
  exact fun z => h (of_decide_eq_true (z i (List.mem_range.mpr hi)))
set_option maxRecDepth 20000 in
theorem l_U_fit {d u : Nat} {S : z_S} {Z : z_Zt} {rule : Int32} (hu : S.1 20 = nI u) (hu8 : u ≤ 8) (hg : ∀ i, i < u → (11 ≤ S.2 34 i ∧ S.2 34 i ≤ 99) ∧ (11 ≤ S.2 35 i ∧ S.2 35 i ≤ 99)) (hz : ∀ r : Int32, z_b r (fitB u (S.2 34) (S.2 35) (S.2 36) rule = true) → Z (some (.inl r)) (z_H S)) : ∀ m k, k + m = u → (∀ i, i < k → guessF rule (S.2 34 i) (S.2 35 i) = S.2 36 i) → z_Run (d + 3) 73 (z_own 2) z_m38.2.1 z_m38.2.2.1 none (fun v h' => z_nar z_m38.2.2.2.1 v ∧ Z v h') 2 [(0, z_p 33), (1, .inl rule), (2, .inl (nI k))] [] (z_H S) := by
  intro m
  induction m with
  | zero =>
    intro k hk hall
    have hk : k = u := by omega
    subst hk
    refine z_Run_of z_tk38 [] 60 (fun C K R hC hK hR => ?_)
    refine And.intro (fun q => ?_) (fun q => absurd (show S.1 20 ≤ nI k by rw [hu]; exact nI_le (by omega) (by omega)) q)
    exact hR _ _ ⟨⟨_, rfl, rfl⟩, hz _ (Or.inl ⟨rfl, fitB_y hall⟩)⟩
  | succ m ih =>
    intro k hk hall
    have hcl : (nI k).toNatClampNeg = k := nI_clamp (by omega)
    have hin : vp_in (nI k) 8 := vp_in_nI (by omega) (by omega)
    refine z_Run_of z_tk38 [(2, [0, 1, 2])] 60 (fun C K R hC hK hR => ?_)
    refine And.intro (fun q => absurd (show S.1 20 ≤ nI k from q) (by rw [hu]; exact nI_ge (by omega) (by omega))) (fun q => ?_)
    refine And.intro hin (And.intro hin ?_)
    obtain ⟨g1, g2⟩ := hg k (by omega)
    conv => whnf
    refine hC _ _ _ _ (s_X_guessBy (h := z_H S) (by rw [hcl]; exact g1) (by rw [hcl]; exact g2) (fun v hv => ?_))
    rw [hcl] at hv
    refine And.intro hin ?_
    refine And.intro (fun e => ?_) (fun e => ?_)
    · have e : v = S.2 36 (nI k).toNatClampNeg := e
      rw [hcl, hv] at e
      have := ih (k + 1) (by omega) (fun i hi => by
        by_cases q : i = k
        · subst q; exact e
        · exact hall i (by omega))
      rw [nI_succ] at this
      exact hK _ _ _ _ this
    · have e : ¬ v = S.2 36 (nI k).toNatClampNeg := e
      rw [hcl, hv] at e
      exact hR _ _ ⟨⟨_, rfl, rfl⟩, hz _ (Or.inr ⟨rfl, fitB_n (by omega) e⟩)⟩
set_option maxRecDepth 20000 in
theorem s_U_fit {d u : Nat} {S : z_S} {Z : z_Zt} {rule : Int32} (hu : S.1 20 = nI u) (hu8 : u ≤ 8) (hg : ∀ i, i < u → (11 ≤ S.2 34 i ∧ S.2 34 i ≤ 99) ∧ (11 ≤ S.2 35 i ∧ S.2 35 i ≤ 99)) (hz : ∀ r : Int32, z_b r (fitB u (S.2 34) (S.2 35) (S.2 36) rule = true) → Z (some (.inl r)) (z_H S)) : z_EvM (d + 3) 73 38 [z_p 33, .inl rule] (z_H S) Z := by
  refine z_go (c := 2) (t := z_t38) rfl rfl rfl z_tk38 [(2, [0, 1, 2])] 60 (fun C K R hC hK hR => ?_)
  exact hK _ _ _ _ (l_U_fit hu hu8 hg hz u 0 (by omega) (fun i hi => by omega))
def ruF (fb : Int32 → Bool) : Nat → Nat → Int32 → Int32
  | 0, _, b => b
  | m + 1, r, b => ruF fb m (r + 1) (if fb (nI r) = true then b ||| ((1 : Int32) <<< (nI r &&& 31)) else b)
set_option maxRecDepth 20000 in
theorem l_X_rules {d u : Nat} {S : z_S} {Z : z_Zt} (hu : S.1 20 = nI u) (hu8 : u ≤ 8) (hg : ∀ i, i < u → (11 ≤ S.2 34 i ∧ S.2 34 i ≤ 99) ∧ (11 ≤ S.2 35 i ∧ S.2 35 i ≤ 99)) : ∀ m k b, k + m = 5 → Z (some (.inl (ruF (fitB u (S.2 34) (S.2 35) (S.2 36)) m k b))) (z_H S) → z_Run (d + 4) 73 (z_own 7) z_m90.2.1 z_m90.2.2.1 none (fun v h' => z_nar z_m90.2.2.2.1 v ∧ Z v h') 4 [(0, z_p 0), (1, .inl b), (2, .inl (nI k))] [] (z_H S) := by
  intro m
  induction m with
  | zero =>
    intro k b hk hz
    have hk : k = 5 := by omega
    subst hk
    refine z_Run_of z_tk90 [] 60 (fun C K R hC hK hR => ?_)
    refine And.intro (fun q => ?_) (fun q => absurd (by decide) q)
    exact hR _ _ ⟨⟨_, rfl, rfl⟩, hz⟩
  | succ m ih =>
    intro k b hk hz
    refine z_Run_of z_tk90 [(4, [0, 1, 2])] 60 (fun C K R hC hK hR => ?_)
    refine And.intro (fun q => absurd q (show ¬ (5 : Int32) ≤ nI k from nI_ge (a := k) (b := 5) (by omega) (by omega))) (fun q => ?_)
    conv => whnf
    refine hC _ _ _ _ (s_U_fit hu hu8 hg (fun r hr => ?_))
    refine And.intro (fun e => ?_) (fun e => ?_)
    · rw [ruF, if_neg (zb_f hr e)] at hz
      have := ih (k + 1) _ (by omega) hz
      rw [nI_succ] at this
      exact hK _ _ _ _ this
    · rw [ruF, if_pos (zb_t hr e)] at hz
      have := ih (k + 1) _ (by omega) hz
      rw [nI_succ] at this
      exact hK _ _ _ _ this
theorem or_0 (x : Int32) : x ||| 0 = x := by simp
section
variable {d u : Nat} {S D : z_S} {Z : z_Zt}
theorem gu_at (hD : z_Rl (S.2 61) D) {k : Nat} (hk : k < 8) : (vp_in (66 + 3 * nI k) 90 ∧ S.2 61 (66 + 3 * nI k).toNatClampNeg = D.2 8 k) ∧ (vp_in (66 + 3 * nI k + 1) 90 ∧ S.2 61 (66 + 3 * nI k + 1).toNatClampNeg = D.2 9 k) ∧ (vp_in (66 + 3 * nI k + 2) 90 ∧ S.2 61 (66 + 3 * nI k + 2).toNatClampNeg = D.2 10 k) := by
  have ei : (66 : Int32) + 3 * nI k = nI (66 + 3 * k) := guix ⟨k, hk⟩
  have e1 : nI (66 + 3 * k) + 1 = nI (66 + 3 * k + 1) := nI_k _ 1 1 rfl
  have e2 : nI (66 + 3 * k) + 2 = nI (66 + 3 * k + 2) := nI_k _ 2 2 rfl
  have h := hD.2.2.2 k hk
  rw [ei, e1, e2, nI_clamp (by omega), nI_clamp (by omega), nI_clamp (by omega)]
  exact ⟨⟨vp_in_nI (by omega) (by omega), h 0 (by omega)⟩, ⟨vp_in_nI (by omega) (by omega), h 1 (by omega)⟩, ⟨vp_in_nI (by omega) (by omega), h 2 (by omega)⟩⟩
set_option maxRecDepth 20000 in
theorem l_M_rules2 {rule set : Int32} (hD : z_Rl (S.2 61) D) (hu : D.1 5 = nI u) (hu8 : u ≤ 8)
    (h1 : fitB u (D.2 8) (D.2 9) (D.2 10) rule = true → z_Run (d + 3) 73 (z_own 8) z_m179.2.1 z_m179.2.2.1 none (fun v h' => z_nar z_m179.2.2.2.1 v ∧ Z v h') 4 [(0, z_p 59), (1, .inl (set ||| ((1 : Int32) <<< (rule &&& 31)))), (2, .inl (rule + 1))] [] (z_H S))
    (h2 : ¬ fitB u (D.2 8) (D.2 9) (D.2 10) rule = true → z_Run (d + 3) 73 (z_own 8) z_m179.2.1 z_m179.2.2.1 none (fun v h' => z_nar z_m179.2.2.2.1 v ∧ Z v h') 4 [(0, z_p 59), (1, .inl set), (2, .inl (rule + 1))] [] (z_H S)) : ∀ m k is, k + m = u → z_b is (∀ i, i < k → guessF rule (D.2 8 i) (D.2 9 i) = D.2 10 i) → z_Run (d + 3) 73 (z_own 8) z_m179.2.1 z_m179.2.2.1 none (fun v h' => z_nar z_m179.2.2.2.1 v ∧ Z v h') 14 [(0, z_p 59), (1, .inl set), (2, .inl rule), (3, .inl is), (4, .inl (nI k))] [] (z_H S) := by
  have hs5 : S.2 61 5 = nI u := (hD.1 5 (by omega)).trans hu
  intro m
  induction m with
  | zero =>
    intro k is hk his
    have hk : k = u := by omega
    subst hk
    refine z_Run_of z_tk179 [(4, [0, 1, 2])] 60 (fun C K R hC hK hR => ?_)
    refine And.intro (vp_in_iff.mpr (by decide)) ?_
    refine And.intro (fun q => ?_) (fun q => absurd (show S.2 61 5 ≤ nI k by rw [hs5]; exact nI_le (by omega) (by omega)) q)
    refine And.intro (fun e => ?_) (fun e => ?_)
    · refine hK _ _ _ _ ?_
      have hno := zb_f his e
      have := h2 (fun z => hno (fun i hi => by
        by_cases q : guessF rule (D.2 8 i) (D.2 9 i) = D.2 10 i
        · exact q
        · exact absurd z (fitB_n hi q)))
      rw [← or_0 set] at this
      exact this
    · exact hK _ _ _ _ (h1 (fitB_y (zb_t his e)))
  | succ m ih =>
    intro k is hk his
    obtain ⟨⟨v1, w1⟩, ⟨v2, w2⟩, ⟨v3, w3⟩⟩ := gu_at hD (k := k) (by omega)
    have no : ∀ is', is' = 0 → ¬ (∀ i, i < k + 1 → guessF rule (D.2 8 i) (D.2 9 i) = D.2 10 i) → z_Run (d + 3) 73 (z_own 8) z_m179.2.1 z_m179.2.2.1 none (fun v h' => z_nar z_m179.2.2.2.1 v ∧ Z v h') 14 [(0, z_p 59), (1, .inl set), (2, .inl rule), (3, .inl is'), (4, .inl (nI k + 1))] [] (z_H S) := by
      intro is' e h
      have := ih (k + 1) is' (by omega) (Or.inr ⟨e, h⟩)
      rw [nI_succ] at this
      exact this
    refine z_Run_of z_tk179 [(14, [0, 1, 2, 3, 4])] 60 (fun C K R hC hK hR => ?_)
    refine And.intro (vp_in_iff.mpr (by decide)) ?_
    refine And.intro (fun q => absurd (show S.2 61 5 ≤ nI k from q) (by rw [hs5]; exact nI_ge (by omega) (by omega))) (fun q => ?_)
    refine And.intro (fun e => ?_) (fun e => ?_)
    · exact hK _ _ _ _ (no 0 rfl (fun z => zb_f his e (fun i hi => z i (by omega))))
    · refine And.intro v1 (And.intro v2 ?_)
      conv => whnf
      refine hC _ _ _ _ (s_M_guessBy (h := z_H S) (fun v hv => ?_))
      rw [w1, w2] at hv
      refine And.intro v3 ?_
      refine And.intro (fun e2 => ?_) (fun e2 => ?_)
      · have e2 : ¬ v = S.2 61 (66 + 3 * nI k + 2).toNatClampNeg := e2
        rw [w3, hv] at e2
        exact hK _ _ _ _ (no 0 rfl (fun z => e2 (z k (by omega))))
      · have e2 : v = S.2 61 (66 + 3 * nI k + 2).toNatClampNeg := e2
        rw [w3, hv] at e2
        have := ih (k + 1) 1 (by omega) (Or.inl ⟨rfl, fun i hi => by
          by_cases q : i = k
          · subst q; exact e2
          · exact zb_t his e i (by omega)⟩)
        rw [nI_succ] at this
        exact hK _ _ _ _ this
set_option maxRecDepth 20000 in
theorem l_M_rules (hD : z_Rl (S.2 61) D) (hu : D.1 5 = nI u) (hu8 : u ≤ 8) : ∀ m k b, k + m = 5 → Z (some (.inl (ruF (fitB u (D.2 8) (D.2 9) (D.2 10)) m k b))) (z_H S) → z_Run (d + 3) 73 (z_own 8) z_m179.2.1 z_m179.2.2.1 none (fun v h' => z_nar z_m179.2.2.2.1 v ∧ Z v h') 4 [(0, z_p 59), (1, .inl b), (2, .inl (nI k))] [] (z_H S) := by
  intro m
  induction m with
  | zero =>
    intro k b hk hz
    have hk : k = 5 := by omega
    subst hk
    refine z_Run_of z_tk179 [] 60 (fun C K R hC hK hR => ?_)
    refine And.intro (fun q => ?_) (fun q => absurd (by decide) q)
    exact hR _ _ ⟨⟨_, rfl, rfl⟩, hz⟩
  | succ m ih =>
    intro k b hk hz
    refine z_Run_of z_tk179 [(14, [0, 1, 2, 3, 4])] 60 (fun C K R hC hK hR => ?_)
    refine And.intro (fun q => absurd q (show ¬ (5 : Int32) ≤ nI k from nI_ge (a := k) (b := 5) (by omega) (by omega))) (fun q => ?_)
    refine hK _ _ _ _ (l_M_rules2 hD hu hu8 (fun h => ?_) (fun h => ?_) u 0 1 (by omega) (Or.inl ⟨rfl, fun i hi => by omega⟩))
    · rw [ruF, if_pos h] at hz
      have := ih (k + 1) _ (by omega) hz
      rw [nI_succ] at this
      exact this
    · rw [ruF, if_neg h] at hz
      have := ih (k + 1) _ (by omega) hz
      rw [nI_succ] at this
      exact this
set_option maxRecDepth 20000 in
theorem s_M_rules (hD : z_Rl (S.2 61) D) (hu : D.1 5 = nI u) (hu8 : u ≤ 8) (hz : Z (some (.inl (ruF (fitB u (D.2 8) (D.2 9) (D.2 10)) 5 0 0))) (z_H S)) : z_EvM (d + 3) 73 179 [z_p 59] (z_H S) Z := by
  refine z_go (c := 8) (t := z_t179) rfl rfl rfl z_tk179 [(4, [0, 1, 2])] 60 (fun C K R hC hK hR => ?_)
  exact hK _ _ _ _ (l_M_rules hD hu hu8 5 0 0 (by omega) hz)
end
set_option maxRecDepth 20000 in
theorem op_rules : z_op 90 179 [] := by
  intro S hI Z hz
  obtain ⟨n, g, u, t, w, hok, hRl, him, htx, hrw, hrf, hpl⟩ := id hI
  obtain ⟨hn, hg, ⟨hu8, hu⟩, hL, hO, hN, hf, hwe, hdi, hgu⟩ := id hok
  refine z_go (c := 7) (t := z_t90) rfl rfl rfl z_tk90 [(4, [0, 1, 2])] 60 (fun C K R hC hK hR => ?_)
  refine hK _ _ _ _ (l_X_rules (d := 596) (S := S) hu hu8 hgu 5 0 0 (by omega) (hz _ S (fun Z2 hz2 => ?_)))
  exact s_M_rules (D := dN S) hRl hu hu8 (hz2 _ S rfl hI)
/-! parting -/
abbrev z_P2 : Type := Int32 × Int32
def ptS (one other : Int32) (l r : Nat) (st : z_P2) : z_P2 := if guessF one (nI l) (nI r) = guessF other (nI l) (nI r) then st else (st.1 + 1, if st.1 = 0 then 100 * nI l + nI r else st.2)
def okN (v : Nat) : Bool := Nat.ble 1 (v % 10) && Nat.ble (v % 10) 4
def ptI (F : Nat → Nat → z_P2 → z_P2) (l : Nat) : Nat → Nat → z_P2 → z_P2
  | 0, _, st => st
  | m + 1, r, st => ptI F l m (r + 1) (if (okN l && okN r) = true then F l r st else st)
def ptO (F : Nat → Nat → z_P2 → z_P2) : Nat → Nat → z_P2 → z_P2
  | 0, _, st => st
  | m + 1, l, st => ptO F m (l + 1) (ptI F l 34 11 st)
def lkN (k : Nat) : Nat := 10 * (1 + k / 64) + 1 + k / 16 % 4
def rkN (k : Nat) : Nat := 10 * (1 + k / 4 % 4) + 1 + k % 4
def ptR (F : Nat → Nat → z_P2 → z_P2) : Nat → Nat → z_P2 → z_P2
  | 0, _, st => st
  | m + 1, k, st => ptR F m (k + 1) (F (lkN k) (rkN k) st)
def LI (l : Nat) : Nat → Nat → List (Nat × Nat)
  | 0, _ => []
  | m + 1, r => if (okN l && okN r) = true then (l, r) :: LI l m (r + 1) else LI l m (r + 1)
def LO : Nat → Nat → List (Nat × Nat)
  | 0, _ => []
  | m + 1, l => LI l 34 11 ++ LO m (l + 1)
def LR : Nat → Nat → List (Nat × Nat)
  | 0, _ => []
  | m + 1, k => (lkN k, rkN k) :: LR m (k + 1)
theorem ptI_fold (F : Nat → Nat → z_P2 → z_P2) (l : Nat) : ∀ m r st, ptI F l m r st = (LI l m r).foldl (fun s p => F p.1 p.2 s) st := by
  intro m
  induction m with
  | zero => intro r st; rfl
  | succ m ih =>
    intro r st
    rw [ptI, LI]
    by_cases h : (okN l && okN r) = true
    · rw [if_pos h, if_pos h, ih, List.foldl_cons]
    · rw [if_neg h, if_neg h, ih]
theorem ptO_fold (F : Nat → Nat → z_P2 → z_P2) : ∀ m l st, ptO F m l st = (LO m l).foldl (fun s p => F p.1 p.2 s) st := by
  intro m
  induction m with
  | zero => intro l st; rfl
  | succ m ih =>
    intro l st
    rw [ptO, LO, ih, List.foldl_append, ptI_fold]
theorem ptR_fold (F : Nat → Nat → z_P2 → z_P2) : ∀ m k st, ptR F m k st = (LR m k).foldl (fun s p => F p.1 p.2 s) st := by
  intro m
  induction m with
  | zero => intro k st; rfl
  | succ m ih =>
    intro k st
    rw [ptR, LR, ih, List.foldl_cons]
set_option maxRecDepth 100000 in
theorem LO_LR : LO 34 11 = LR 256 0 := by decide +kernel
theorem pt_eq (F : Nat → Nat → z_P2 → z_P2) (st : z_P2) : ptO F 34 11 st = ptR F 256 0 st := by rw [ptO_fold, ptR_fold, LO_LR]
