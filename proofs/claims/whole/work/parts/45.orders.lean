/-! orders: the class's going through, its look -/
def O_cx (S : z_S) (n : Nat) (fe : Nat → Int32) (turn : Nat → Int32) (bang : Int32) : Prop := S.1 27 = nI (cM fe n) ∧ S.1 30 = bang ∧ (∀ i, i < cM fe n → S.2 53 i = nI (sI fe n i)) ∧ (∀ i, i < cM fe n → S.2 54 i = turn (sI fe n i))
def O_sp (S : z_S) (n : Nat) (fe : Nat → Int32) (turn : Nat → Int32) (bang : Int32) (e m j : Nat) : Prop := ∀ (B t : Nat) (at' : Nat → Int32) (sum worst : Int32) (a : z_Oa) (q lb : Int32) (be at2 : Nat → Int32) (Z : z_Zt), mk2 (fun i => nI (sI fe n i)) (cM fe n) j t at' → (∀ k, k < j → at2 k = at' k) → cR (cM fe n) B a q lb be → ¬ worst < 0 → B + 5 ^ m < 2 ^ 31 → (∀ q' lb' be' at3, cR (cM fe n) (B + 5 ^ m) (orF n fe turn bang m j at' sum worst a) q' lb' be' → (∀ k, k < j → at3 k = at' k) → Z none (z_H (oS S q' lb' be' at3))) → z_EvM e 73 40 [z_p 51, .inl (nI j), .inl (nI t), .inl sum, .inl worst] (z_H (oS S q lb be at2)) Z
section
variable {S : z_S} {n : Nat} {fe : Nat → Int32} {turn : Nat → Int32} {bang : Int32} {Z : z_Zt}
set_option maxRecDepth 20000 in
theorem l_O_goThrough {e m j t : Nat} {at' : Nat → Int32} {sum worst : Int32} (cx : O_cx S n fe turn bang) (hn : n ≤ 5) (hjm : j + (m + 1) = cM fe n) (hm : mk2 (fun i => nI (sI fe n i)) (cM fe n) j t at') (hw : ¬ worst < 0) {Bf : Nat} (hBf : Bf < 2 ^ 31) (rc : O_sp S n fe turn bang e m (j + 1)) : ∀ r s B (a : z_Oa) q lb (be at2 : Nat → Int32), s + r = cM fe n → B + r * 5 ^ m ≤ Bf → cR (cM fe n) B a q lb be → (∀ k, k < j → at2 k = at' k) → (∀ q' lb' be' at3, cR (cM fe n) Bf (itF (fun a i => orG n fe turn bang m j at' sum worst a (sI fe n i)) r s a) q' lb' be' → (∀ k, k < j → at3 k = at' k) → Z none (z_H (oS S q' lb' be' at3))) → z_Run (e + 1) 73 (z_own 3) z_m40.2.1 z_m40.2.2.1 none (fun v h' => z_nar z_m40.2.2.2.1 v ∧ Z v h') 23 [(0, z_p 51), (1, .inl (nI j)), (2, .inl (nI t)), (3, .inl sum), (4, .inl worst), (5, .inl (nI s))] [] (z_H (oS S q lb be at2)) := by
  have hM5 : cM fe n ≤ n := cM_le fe n
  obtain ⟨cx1, cx2, cx3, cx4⟩ := cx
  have ht : t < 2 ^ 31 := by have := hm.1; omega
  intro r
  induction r with
  | zero =>
    intro s B a q lb be at2 hs hB ha hat hz
    refine z_Run_of z_tk40 [] 60 (fun C K R hC hK hR => ?_)
    refine And.intro (fun _ => ?_) (fun qq => absurd (show S.1 27 ≤ nI s by rw [cx1]; exact nI_le (by omega) (by omega)) qq)
    exact hR _ _ ⟨rfl, hz q lb be at2 (cR_mono ha (by omega)) hat⟩
  | succ r ih =>
    intro s B a q lb be at2 hs hB ha hat hz
    have hcl : (nI s).toNatClampNeg = s := nI_clamp (by omega)
    have hcj : (nI j).toNatClampNeg = j := nI_clamp (by omega)
    have hin : vp_in (nI s) 5 := vp_in_nI (by omega) (by omega)
    have hij : vp_in (nI j) 5 := vp_in_nI (by omega) (by omega)
    have hb := bi_tst (t := t) (s := s) ht (by omega)
    have hu := hm.2 s (by omega)
    have hle : r * 5 ^ m ≤ (r + 1) * 5 ^ m := Nat.mul_le_mul_right _ (Nat.le_succ r)
    have hmul : (r + 1) * 5 ^ m = r * 5 ^ m + 5 ^ m := Nat.succ_mul _ _
    refine z_Run_of z_tk40 [(23, [0, 1, 2, 3, 4, 5]), (52, [0, 1, 2, 3, 4, 5, 6])] 60 (fun C K R hC hK hR => ?_)
    refine And.intro (fun qq => absurd (show S.1 27 ≤ nI s from qq) (by rw [cx1]; exact nI_ge (by omega) (by omega))) (fun _ => ?_)
    refine And.intro (fun e1 => ?_) (fun e1 => ?_)
    · have hu2 : usedF j at' (nI (sI fe n s)) = true := by
        refine Eq.trans hu.symm ?_
        cases h9 : t.testBit s
        · exact absurd (hb.mpr h9) e1
        · rfl
      have := ih (s + 1) B a q lb be at2 (by omega) (by omega) ha hat (fun q' lb' be' at3 h1 h2 => hz q' lb' be' at3 (by rw [itF_S, orG, if_pos hu2]; exact h1) h2)
      rw [nI_succ] at this
      exact hK _ _ _ _ this
    · have hu2 : ¬ usedF j at' (nI (sI fe n s)) = true := by
        have : usedF j at' (nI (sI fe n s)) = false := hu.symm.trans (hb.mp e1)
        rw [this]
        exact Bool.false_ne_true
      refine And.intro hin ?_
      refine hK _ _ _ _ (show z_Run (e + 1) 73 (z_own 3) z_m40.2.1 z_m40.2.2.1 none (fun v h' => z_nar z_m40.2.2.2.1 v ∧ Z v h') 52 [(0, z_p 51), (1, .inl (nI j)), (2, .inl (nI t)), (3, .inl sum), (4, .inl worst), (5, .inl (nI s)), (6, .inl (sum + S.2 54 (nI s).toNatClampNeg))] [] (z_H (oS S q lb be at2)) from ?_)
      rw [hcl, cx4 s (by omega)]
      generalize hth : sum + turn (sI fe n s) = th
      refine z_Run_of z_tk40 [(23, [0, 1, 2, 3, 4, 5]), (65, [0, 1, 2, 3, 4, 5, 6])] 60 (fun C K R hC hK hR => ?_)
      refine And.intro hin (And.intro hij ?_)
      refine hK _ _ _ _ (show z_Run (e + 1) 73 (z_own 3) z_m40.2.1 z_m40.2.2.1 none (fun v h' => z_nar z_m40.2.2.2.1 v ∧ Z v h') 65 [(0, z_p 51), (1, .inl (nI j)), (2, .inl (nI t)), (3, .inl sum), (4, .inl worst), (5, .inl (nI s)), (6, .inl th)] [] (z_H (oS S q lb be (upd at2 (nI j).toNatClampNeg (S.2 53 (nI s).toNatClampNeg)))) from ?_)
      rw [hcl, hcj, cx3 s (by omega)]
      have rcs := rc B (t ||| 2 ^ s) (upd at' j (nI (sI fe n s))) th (mxF worst (absF th)) a q lb be (upd at2 j (nI (sI fe n s)))
      rw [← bi_or, ← bi_one ⟨s, by omega⟩] at rcs
      have emx : mxF worst (absF th) = (if worst < (if 0 ≤ th then th else 0 - th) then (if 0 ≤ th then th else 0 - th) else worst) := by rw [abs_eq]; rfl
      rw [nI_succ, emx] at rcs
      refine z_Run_of z_tk40 [(23, [0, 1, 2, 3, 4, 5])] 60 (fun C K R hC hK hR => ?_)
      conv => whnf
      refine hC _ _ _ _ (rcs _ (by exact mk2_st (num := fun i => nI (sI fe n i)) hm (by omega) (by omega) (fun r hr h => sI_inj hr (by omega) ((nI_eq (by have := (sI_in fe n r hr).1; omega) (by have := (sI_in fe n s (by omega)).1; omega)).mp h))) (fun k hk => ?_) ha (by rw [← emx]; exact mx_nn hw) (by omega) (fun q' lb' be' at3 h1 h2 => ?_))
      · by_cases q0 : k = j
        · subst q0; rw [pk_us, pk_us]
        · rw [pk_un q0, pk_un q0]; exact hat k (by omega)
      · have := ih (s + 1) (B + 5 ^ m) _ q' lb' be' at3 (by omega) (by omega) h1 (fun k hk => by rw [h2 k (by omega), pk_un (by omega)]) (fun q2 lb2 be2 at4 h3 h4 => hz q2 lb2 be2 at4 (by
          rw [itF_S, orG, if_neg hu2, hth, emx]
          exact h3) h4)
        rw [nI_succ] at this
        exact hK _ _ _ _ this
set_option maxRecDepth 20000 in
theorem s_O_goThrough (cx : O_cx S n fe turn bang) (hn : n ≤ 5) : ∀ m j e, j + m = cM fe n → m + 2 ≤ e → O_sp S n fe turn bang e m j := by
  have hM5 : cM fe n ≤ n := cM_le fe n
  intro m
  induction m with
  | zero =>
    intro j e hj he B t at' sum worst a q lb be at2 Z hm hat ha hw hB hz
    obtain ⟨d, rfl⟩ : ∃ d, e = d + 2 := ⟨e - 2, by omega⟩
    have hj : j = cM fe n := by omega
    have tail : z_Run (d + 2) 73 (z_own 3) z_m40.2.1 z_m40.2.2.1 none (fun v h' => z_nar z_m40.2.2.2.1 v ∧ Z v h') 13 [(0, z_p 51), (4, .inl worst)] [] (z_H (oS S q lb be at2)) := by
      refine z_Run_of z_tk40 [] 60 (fun C K R hC hK hR => ?_)
      conv => whnf
      refine hC _ _ _ _ (s_O_hear (M := cM fe n) (B := B) (a := a) (at' := at') (by omega) cx.2.1 (by simpa using hB) ha (fun k hk => hat k (by omega)) hw (fun q' lb' be' h1 => ?_))
      exact hR _ _ ⟨rfl, hz q' lb' be' at2 (by simpa [orF] using h1) hat⟩
    refine z_go (c := 3) (t := z_t40) rfl rfl rfl z_tk40 [(13, [0, 4])] 60 (fun C K R hC hK hR => ?_)
    refine And.intro (fun q => hK _ _ _ _ tail) (fun q => absurd (show S.1 27 ≤ nI j by rw [cx.1]; exact nI_le (by omega) (by omega)) q)
  | succ m ih =>
    intro j e hj he B t at' sum worst a q lb be at2 Z hm hat ha hw hB hz
    obtain ⟨d, rfl⟩ : ∃ d, e = d + 1 := ⟨e - 1, by omega⟩
    have rc := ih (j + 1) d (by omega) (by omega)
    have hp5 : 5 ^ (m + 1) = 5 * 5 ^ m := by rw [Nat.pow_succ, Nat.mul_comm]
    have hle : cM fe n * 5 ^ m ≤ 5 * 5 ^ m := Nat.mul_le_mul_right _ (by omega)
    refine z_go (c := 3) (t := z_t40) rfl rfl rfl z_tk40 [(23, [0, 1, 2, 3, 4, 5])] 60 (fun C K R hC hK hR => ?_)
    refine And.intro (fun q => absurd (show S.1 27 ≤ nI j from q) (by rw [cx.1]; exact nI_ge (by omega) (by omega))) (fun q => ?_)
    refine And.intro (fun q2 => ?_) (fun q2 => absurd (show nI j < 5 from nI_lt (a := j) (b := 5) (by omega) (by omega)) q2)
    refine hK _ _ _ _ (l_O_goThrough (e := d) cx hn hj hm hw hB rc (cM fe n) 0 B a _ lb be at2 (by omega) (by omega) ha hat (fun q' lb' be' at3 h1 h2 => hz q' lb' be' at3 (by rw [orF_S2]; exact h1) h2))
end
/-! its look -/
def okS (S : z_S) (m b : Int32) (f g : Nat → Int32) : z_S := z_w (z_w (z_u (z_u S 27 m) 30 b) 53 f) 54 g
def tuO (S : z_S) (c : Nat) : Int32 := turnF (S.2 5 c) (S.2 6 c) (armF (S.1 2) (S.2 8 c))
section
variable {d n : Nat} {S : z_S} {Z : z_Zt} {b : Int32}
set_option maxRecDepth 20000 in
theorem l_O_look (hc : S.1 3 = nI n) (hn : n ≤ 5) (hf : z_fe n (S.2 8)) (hv : 0 ≤ S.1 2 ∧ S.1 2 ≤ 4) (next : ∀ f g, (∀ i, i < cM (S.2 8) n → f i = nI (sI (S.2 8) n i)) → (∀ i, i < cM (S.2 8) n → g i = tuO S (sI (S.2 8) n i)) → z_Run (d + 5) 73 (z_own 3) z_m39.2.1 z_m39.2.2.1 none (fun v h' => z_nar z_m39.2.2.2.1 v ∧ Z v h') 74 [(0, z_p 51), (1, z_p 4)] [] (z_H (okS S (nI (cM (S.2 8) n)) b f g))) : ∀ m k f g, k + m = n → (∀ i, i < cM (S.2 8) k → f i = nI (sI (S.2 8) k i)) → (∀ i, i < cM (S.2 8) k → g i = tuO S (sI (S.2 8) k i)) → z_Run (d + 5) 73 (z_own 3) z_m39.2.1 z_m39.2.2.1 none (fun v h' => z_nar z_m39.2.2.2.1 v ∧ Z v h') 12 [(0, z_p 51), (1, z_p 4), (3, .inl (nI k))] [] (z_H (okS S (nI (cM (S.2 8) k)) b f g)) := by
  intro m
  induction m with
  | zero =>
    intro k f g hk h1 h2
    have hk : k = n := by omega
    subst hk
    refine z_Run_of z_tk39 [(74, [0, 1])] 60 (fun C K R hC hK hR => ?_)
    refine And.intro (fun q => hK _ _ _ _ (next f g h1 h2)) (fun q => absurd (show S.1 3 ≤ nI k by rw [hc]; exact nI_le (by omega) (by omega)) q)
  | succ m ih =>
    intro k f g hk h1 h2
    have hcl : (nI k).toNatClampNeg = k := nI_clamp (by omega)
    have hin : vp_in (nI k) 5 := vp_in_nI (by omega) (by omega)
    have hMk := cM_le (S.2 8) k
    have hcm : (nI (cM (S.2 8) k)).toNatClampNeg = cM (S.2 8) k := nI_clamp (by omega)
    have him : vp_in (nI (cM (S.2 8) k)) 5 := vp_in_nI (by omega) (by omega)
    refine z_Run_of z_tk39 [(12, [0, 1, 3])] 60 (fun C K R hC hK hR => ?_)
    refine And.intro (fun q => absurd (show S.1 3 ≤ nI k from q) (by rw [hc]; exact nI_ge (by omega) (by omega))) (fun q => ?_)
    conv => whnf
    refine hC _ _ _ _ (s_B0_sitsP (S := okS S (nI (cM (S.2 8) k)) b f g) hc hn (by omega) (fun r hr => ?_))
    refine And.intro (fun e => ?_) (fun e => ?_)
    · have h0 : S.2 8 k = 0 := Decidable.not_not.mp (zb_f hr e)
      have := ih (k + 1) f g (by omega) (fun i hi => by
        rw [cM, if_pos h0] at hi
        rw [sI, if_pos h0]; exact h1 i hi) (fun i hi => by
        rw [cM, if_pos h0] at hi
        rw [sI, if_pos h0]; exact h2 i hi)
      rw [nI_succ, cM, if_pos h0] at this
      exact hK _ _ _ _ this
    · have h0 : ¬ S.2 8 k = 0 := zb_t hr e
      refine And.intro him ?_
      refine And.intro hin ?_
      obtain ⟨f1, f2⟩ := hf k (by omega)
      conv => whnf
      refine hC _ _ _ _ (s_B0_turnOn (S := okS S (nI (cM (S.2 8) k)) b (upd f (nI (cM (S.2 8) k)).toNatClampNeg (nI k)) g) (k := k) (by omega) (show -6 ≤ S.2 8 (nI k).toNatClampNeg ∧ S.2 8 (nI k).toNatClampNeg ≤ 6 by rw [hcl]; exact ⟨f1, f2⟩) hv (fun r2 hr2 => ?_))
      have hr2 : r2 = tuO S k := by
        have hr2 : r2 = turnF (S.2 5 k) (S.2 6 k) (armF (S.1 2) (S.2 8 (nI k).toNatClampNeg)) := hr2
        rw [hcl] at hr2
        exact hr2
      subst hr2
      refine And.intro him ?_
      have := ih (k + 1) (upd f (nI (cM (S.2 8) k)).toNatClampNeg (nI k)) (upd g (nI (cM (S.2 8) k)).toNatClampNeg (tuO S k)) (by omega) (fun i hi => by
        rw [cM, if_neg h0] at hi
        rw [sI, if_neg h0, hcm]
        show _ = nI (if i = cM (S.2 8) k then k else sI (S.2 8) k i)
        by_cases e2 : i = cM (S.2 8) k
        · subst e2; rw [pk_us, if_pos rfl]
        · rw [pk_un e2, if_neg e2]; exact h1 i (by omega)) (fun i hi => by
        rw [cM, if_neg h0] at hi
        rw [sI, if_neg h0, hcm]
        show _ = tuO S (if i = cM (S.2 8) k then k else sI (S.2 8) k i)
        by_cases e2 : i = cM (S.2 8) k
        · subst e2; rw [pk_us, if_pos rfl]
        · rw [pk_un e2, if_neg e2]; exact h2 i (by omega))
      rw [nI_succ, cM, if_neg h0, nI_succ] at this
      exact hK _ _ _ _ this
def orD (D : z_S) (n : Nat) (bang : Int32) : z_Oa := orF n (D.2 3) (fun c => turnF (D.2 0 c) (D.2 1 c) (armF (D.1 2) (D.2 3 c))) bang (cM (D.2 3) n) 0 (fun _ => 0) (ownF (D.1 1) (D.1 2)) 0 (0, -9, fun _ => 0)
def olX (S : z_S) (m b : Int32) (f g : Nat → Int32) (q lb : Int32) (be at' : Nat → Int32) : z_S := oS (okS S m b f g) q lb be at'
theorem pow5 {n : Nat} (h : n ≤ 5) : 5 ^ n ≤ 3125 := Nat.pow_le_pow_right (n := 5) (by omega) h
set_option maxRecDepth 20000 in
theorem s_O_look {e : Nat} (he : 10 ≤ e) (hc : S.1 3 = nI n) (hn : n ≤ 5) (hf : z_fe n (S.2 8)) (hv : 0 ≤ S.1 2 ∧ S.1 2 ≤ 4) (hz : ∀ f g q lb be at', cR (cM (S.2 8) n) 3125 (orD (dN S) n b) q lb be → Z none (z_H (olX S (nI (cM (S.2 8) n)) b f g q lb be at'))) : z_EvM e 73 39 [z_p 51, z_p 4, .inl b] (z_H S) Z := by
  obtain ⟨d, rfl⟩ : ∃ d, e = d + 10 := ⟨e - 10, by omega⟩
  have hM5 : cM (S.2 8) n ≤ n := cM_le _ n
  have p5 := pow5 (n := cM (S.2 8) n) (by omega)
  refine z_go (c := 3) (t := z_t39) rfl rfl rfl z_tk39 [(12, [0, 1, 3])] 60 (fun C K R hC hK hR => ?_)
  have := l_O_look (d := d + 5) (n := n) (S := S) (Z := Z) (b := b) hc hn hf hv (fun f g h1 h2 => ?_) n 0 (S.2 53) (S.2 54) (by omega) (fun i hi => absurd hi (by rw [cM]; omega)) (fun i hi => absurd hi (by rw [cM]; omega))
  · exact hK _ _ _ _ this
  · refine z_Run_of z_tk39 [] 60 (fun C K R hC hK hR => ?_)
    conv => whnf
    refine hC _ _ _ _ (s_B0_ownTurn (S := z_u (z_u (okS S (nI (cM (S.2 8) n)) b f g) 28 0) 29 2147483647) (fun ro hro => ?_))
    subst hro
    have go := s_O_goThrough (S := okS S (nI (cM (S.2 8) n)) b f g) (n := n) (fe := S.2 8) (turn := tuO S) (bang := b) ⟨rfl, rfl, h1, h2⟩ hn (cM (S.2 8) n) 0 (d + 9) (by omega) (by omega)
    conv => whnf
    refine hC _ _ _ _ (go 0 0 (fun _ => 0) (ownF (S.1 1) (S.1 2)) 0 (0, -9, fun _ => 0) 0 2147483647 (S.2 52) (S.2 55) _ (mk2_0 _ _ _) (fun k hk => by omega) ⟨rfl, by omega, Or.inl ⟨rfl, rfl⟩, Or.inl rfl⟩ (by decide) (by omega) (fun q lb be at3 g1 g2 => ?_))
    exact hR _ _ ⟨rfl, hz f g q lb be at3 (cR_mono g1 (by omega))⟩
end
