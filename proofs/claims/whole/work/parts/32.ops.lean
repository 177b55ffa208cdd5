/-! parting: both sides -/
theorem okN_all : ∀ k : Fin 34, ((1 : Int32) ≤ nI (11 + k.val) - nI (11 + k.val) / 10 * 10 ∧ nI (11 + k.val) - nI (11 + k.val) / 10 * 10 ≤ 4) ↔ okN (11 + k.val) = true := by decide +kernel
theorem okN_iff {v : Nat} (h1 : 11 ≤ v) (h2 : v ≤ 44) : ((1 : Int32) ≤ nI v - nI v / 10 * 10 ∧ nI v - nI v / 10 * 10 ≤ 4) ↔ okN v = true := by
  have := okN_all ⟨v - 11, by omega⟩
  have e : 11 + (v - 11) = v := by omega
  rw [e] at this
  exact this
set_option maxRecDepth 20000 in
theorem s_X_isOfParting {d nh v : Nat} {h : List z_C} {Z : z_Zt} (h1 : 11 ≤ v) (h2 : v ≤ 44) (hz : ∀ r : Int32, z_b r (okN v = true) → Z (some (.inl r)) h) : z_EvM (d + 1) nh 108 [.inl (nI v)] h Z := by
  have ho := okN_iff h1 h2
  refine z_go (c := 7) (t := z_t108) rfl rfl rfl z_tk108 [] 100 (fun C K R hC hK hR => ?_)
  refine And.intro (by decide) ?_
  refine And.intro (fun q => ?_) (fun q => ?_)
  · exact hR _ _ ⟨_, rfl, rfl⟩ (hz _ (Or.inr ⟨rfl, fun z => nlt_le (ho.mpr z).1 q⟩))
  · refine And.intro (by decide) ?_
    refine And.intro (fun q2 => ?_) (fun q2 => ?_)
    · exact hR _ _ ⟨_, rfl, rfl⟩ (hz _ (Or.inr ⟨rfl, fun z => nlt_le (ho.mpr z).2 q2⟩))
    · exact hR _ _ ⟨_, rfl, rfl⟩ (hz _ (Or.inl ⟨rfl, ho.mp ⟨nlt_ge q, nlt_ge q2⟩⟩))
theorem in99 {v : Nat} (h1 : 11 ≤ v) (h2 : v ≤ 44) : (11 : Int32) ≤ nI v ∧ nI v ≤ 99 := ⟨nI_le (a := 11) (b := v) h1 (by omega), nI_le (a := v) (b := 99) (by omega) (by omega)⟩
set_option maxRecDepth 20000 in
theorem s_X_areParted {d nh l r : Nat} {h : List z_C} {Z : z_Zt} {one other : Int32} (h1 : 11 ≤ l) (h2 : l ≤ 44) (h3 : 11 ≤ r) (h4 : r ≤ 44) (hz : ∀ x : Int32, z_b x ((okN l && okN r) = true ∧ ¬ guessF one (nI l) (nI r) = guessF other (nI l) (nI r)) → Z (some (.inl x)) h) : z_EvM (d + 3) nh 107 [.inl one, .inl other, .inl (nI l), .inl (nI r)] h Z := by
  refine z_go (c := 7) (t := z_t107) rfl rfl rfl z_tk107 [] 100 (fun C K R hC hK hR => ?_)
  conv => whnf
  refine hC _ _ _ _ (s_X_isOfParting h1 h2 (fun r1 hr1 => ?_))
  refine And.intro (fun e => ?_) (fun e1 => ?_)
  · exact hR _ _ ⟨_, rfl, rfl⟩ (hz _ (Or.inr ⟨rfl, fun z => zb_f hr1 e (Bool.and_eq_true_iff.mp z.1).1⟩))
  · conv => whnf
    refine hC _ _ _ _ (s_X_isOfParting h3 h4 (fun r2 hr2 => ?_))
    refine And.intro (fun e => ?_) (fun e2 => ?_)
    · exact hR _ _ ⟨_, rfl, rfl⟩ (hz _ (Or.inr ⟨rfl, fun z => zb_f hr2 e (Bool.and_eq_true_iff.mp z.1).2⟩))
    · have hb : (okN l && okN r) = true := Bool.and_eq_true_iff.mpr ⟨zb_t hr1 e1, zb_t hr2 e2⟩
      conv => whnf
      refine hC _ _ _ _ (s_X_guessBy (in99 h1 h2) (in99 h3 h4) (fun v1 hv1 => ?_))
      conv => whnf
      refine hC _ _ _ _ (s_X_guessBy (in99 h1 h2) (in99 h3 h4) (fun v2 hv2 => ?_))
      refine And.intro (fun e => ?_) (fun e => ?_)
      · exact hR _ _ ⟨_, rfl, rfl⟩ (hz _ (Or.inr ⟨rfl, fun z => z.2 (by rw [← hv1, ← hv2]; exact e)⟩))
      · exact hR _ _ ⟨_, rfl, rfl⟩ (hz _ (Or.inl ⟨rfl, hb, fun z => e (by rw [hv1, hv2]; exact z)⟩))
section
variable {d : Nat} {S : z_S} {Z : z_Zt} {one other what : Int32}
set_option maxRecDepth 20000 in
theorem l_X_parting2 {l : Nat} (h1 : 11 ≤ l) (h2 : l ≤ 44) {P : z_P2 → Prop} (next : ∀ st : z_P2, P st → z_Run (d + 4) 73 (z_own 7) z_m88.2.1 z_m88.2.2.1 none (fun v h' => z_nar z_m88.2.2.2.1 v ∧ Z v h') 106 [(0, z_p 0), (1, .inl one), (2, .inl other), (3, .inl what), (4, .inl st.1), (5, .inl st.2), (6, .inl (nI l))] [] (z_H S)) : ∀ m r (st : z_P2), r + m = 45 → 11 ≤ r → P (ptI (ptS one other) l m r st) → z_Run (d + 4) 73 (z_own 7) z_m88.2.1 z_m88.2.2.1 none (fun v h' => z_nar z_m88.2.2.2.1 v ∧ Z v h') 58 [(0, z_p 0), (1, .inl one), (2, .inl other), (3, .inl what), (4, .inl st.1), (5, .inl st.2), (6, .inl (nI l)), (7, .inl (nI r))] [] (z_H S) := by
  intro m
  induction m with
  | zero =>
    intro r st hr h11 hP
    have hr : r = 45 := by omega
    subst hr
    refine z_Run_of z_tk88 [(106, [0, 1, 2, 3, 4, 5, 6])] 60 (fun C K R hC hK hR => ?_)
    refine And.intro (fun q => ?_) (fun q => absurd (by decide) q)
    exact hK _ _ _ _ (next st hP)
  | succ m ih =>
    intro r st hr h11 hP
    refine z_Run_of z_tk88 [(58, [0, 1, 2, 3, 4, 5, 6, 7])] 60 (fun C K R hC hK hR => ?_)
    refine And.intro (fun q => absurd q (show ¬ (44 : Int32) < nI r from nI_nlt (a := 44) (b := r) (by omega) (by omega))) (fun q => ?_)
    conv => whnf
    refine hC _ _ _ _ (s_X_areParted (h := z_H S) h1 h2 h11 (by omega) (fun x hx => ?_))
    refine And.intro (fun e => ?_) (fun e => ?_)
    · have hno := zb_f hx e
      have := ih (r + 1) st (by omega) (by omega) (by
        rw [ptI] at hP
        by_cases hb : (okN l && okN r) = true
        · rw [if_pos hb, ptS, if_pos (Decidable.not_not.mp (fun z => hno ⟨hb, z⟩))] at hP
          exact hP
        · rw [if_neg hb] at hP
          exact hP)
      rw [nI_succ] at this
      exact hK _ _ _ _ this
    · have hy := zb_t hx e
      rw [ptI, if_pos hy.1, ptS, if_neg hy.2] at hP
      refine And.intro (fun e2 => ?_) (fun e2 => ?_)
      · rw [if_neg e2] at hP
        have := ih (r + 1) (st.1 + 1, st.2) (by omega) (by omega) hP
        rw [nI_succ] at this
        exact hK _ _ _ _ this
      · rw [if_pos e2] at hP
        have := ih (r + 1) (st.1 + 1, 100 * nI l + nI r) (by omega) (by omega) hP
        rw [nI_succ] at this
        exact hK _ _ _ _ this
set_option maxRecDepth 20000 in
theorem l_X_parting : ∀ m l (st : z_P2), l + m = 45 → 11 ≤ l → (∀ a, a = (if what = 0 then (ptO (ptS one other) m l st).1 else (ptO (ptS one other) m l st).2) → Z (some (.inl a)) (z_H S)) → z_Run (d + 4) 73 (z_own 7) z_m88.2.1 z_m88.2.2.1 none (fun v h' => z_nar z_m88.2.2.2.1 v ∧ Z v h') 47 [(0, z_p 0), (1, .inl one), (2, .inl other), (3, .inl what), (4, .inl st.1), (5, .inl st.2), (6, .inl (nI l))] [] (z_H S) := by
  intro m
  induction m with
  | zero =>
    intro l st hl h11 hz
    have hl : l = 45 := by omega
    subst hl
    refine z_Run_of z_tk88 [] 60 (fun C K R hC hK hR => ?_)
    refine And.intro (fun q => ?_) (fun q => absurd (by decide) q)
    refine And.intro (fun q => ?_) (fun q => ?_)
    · exact hR _ _ ⟨⟨_, rfl, rfl⟩, hz _ (by rw [if_neg q]; rfl)⟩
    · exact hR _ _ ⟨⟨_, rfl, rfl⟩, hz _ (by rw [if_pos q]; rfl)⟩
  | succ m ih =>
    intro l st hl h11 hz
    refine z_Run_of z_tk88 [(58, [0, 1, 2, 3, 4, 5, 6, 7])] 60 (fun C K R hC hK hR => ?_)
    refine And.intro (fun q => absurd q (show ¬ (44 : Int32) < nI l from nI_nlt (a := 44) (b := l) (by omega) (by omega))) (fun q => ?_)
    refine hK _ _ _ _ (l_X_parting2 (l := l) h11 (by omega) (P := fun st' => ∀ a, a = (if what = 0 then (ptO (ptS one other) m (l + 1) st').1 else (ptO (ptS one other) m (l + 1) st').2) → Z (some (.inl a)) (z_H S)) (fun st' hP => ?_) 34 11 st (by omega) (by omega) hz)
    have := ih (l + 1) st' (by omega) (by omega) hP
    rw [nI_succ] at this
    refine z_Run_of z_tk88 [(47, [0, 1, 2, 3, 4, 5, 6])] 60 (fun C K R hC hK hR => ?_)
    exact hK _ _ _ _ this
end
theorem lk_all : ∀ k : Fin 256, (10 * ((1 : Int32) + nI k.val / 64) + 1 + (nI k.val / 16 - nI k.val / 16 / 4 * 4) = nI (lkN k.val) ∧ 10 * ((1 : Int32) + (nI k.val / 4 - nI k.val / 4 / 4 * 4)) + 1 + (nI k.val - nI k.val / 4 * 4) = nI (rkN k.val)) ∧ (lkN k.val ≤ 44 ∧ rkN k.val ≤ 44) := by decide +kernel
def ptJ (k : Nat) (st : z_P2) : Prop := (st.1 = 0 ∧ st.2 = -9) ∨ (∃ c, 1 ≤ c ∧ c ≤ k ∧ st.1 = nI c ∧ ¬ st.2 < 0)
theorem ptJ_st {one other : Int32} {k : Nat} {st : z_P2} (h : ptJ k st) (hk : k < 256) : ptJ (k + 1) (ptS one other (lkN k) (rkN k) st) := by
  obtain ⟨-, b1, b2⟩ := lk_all ⟨k, hk⟩
  have b1 : lkN k ≤ 44 := b1
  have b2 : rkN k ≤ 44 := b2
  unfold ptS
  by_cases q : guessF one (nI (lkN k)) (nI (rkN k)) = guessF other (nI (lkN k)) (nI (rkN k))
  · rw [if_pos q]
    rcases h with h | ⟨c, h1, h2, h3⟩
    · exact Or.inl h
    · exact Or.inr ⟨c, h1, by omega, h3⟩
  · rw [if_neg q]
    rcases h with ⟨h1, h2⟩ | ⟨c, h1, h2, h3, h4⟩
    · refine Or.inr ⟨1, by omega, by omega, ?_, ?_⟩
      · show st.1 + 1 = nI 1
        rw [h1]
        rfl
      · show ¬ (if st.1 = 0 then 100 * nI (lkN k) + nI (rkN k) else st.2) < 0
        rw [if_pos h1]
        have e : (100 : Int32) * nI (lkN k) + nI (rkN k) = nI (100 * lkN k + rkN k) := by rw [show (100 : Int32) = nI 100 from rfl, nI_mul, nI_add]
        rw [e]
        exact nI_pos (by omega)
    · refine Or.inr ⟨c + 1, by omega, by omega, ?_, ?_⟩
      · show st.1 + 1 = nI (c + 1)
        rw [h3, nI_succ]
      · show ¬ (if st.1 = 0 then 100 * nI (lkN k) + nI (rkN k) else st.2) < 0
        rw [if_neg (by rw [h3]; exact nI_ne0 (by omega) (by omega))]
        exact h4
section
variable {d : Nat} {S : z_S} {Z : z_Zt} {one other what : Int32}
set_option maxRecDepth 20000 in
theorem l_M_parting : ∀ m k (st : z_P2), k + m = 256 → ptJ k st → (∀ a, a = (if what = 0 then (ptR (ptS one other) m k st).1 else (ptR (ptS one other) m k st).2) → Z (some (.inl a)) (z_H S)) → z_Run (d + 3) 73 (z_own 8) z_m177.2.1 z_m177.2.2.1 none (fun v h' => z_nar z_m177.2.2.2.1 v ∧ Z v h') 58 [(0, z_p 59), (1, .inl one), (2, .inl other), (3, .inl what), (5, .inl st.1), (6, .inl st.2), (7, .inl (nI k))] [] (z_H S) := by
  intro m
  induction m with
  | zero =>
    intro k st hk hJ hz
    have hk : k = 256 := by omega
    subst hk
    refine z_Run_of z_tk177 [] 60 (fun C K R hC hK hR => ?_)
    refine And.intro (fun q => ?_) (fun q => absurd (by decide) q)
    refine And.intro (fun q => ?_) (fun q => ?_)
    · exact hR _ _ ⟨⟨_, rfl, rfl⟩, hz _ (by rw [if_neg q]; rfl)⟩
    · exact hR _ _ ⟨⟨_, rfl, rfl⟩, hz _ (by rw [if_pos q]; rfl)⟩
  | succ m ih =>
    intro k st hk hJ hz
    obtain ⟨⟨el, er⟩, b1, b2⟩ := lk_all ⟨k, by omega⟩
    have el : 10 * ((1 : Int32) + nI k / 64) + 1 + (nI k / 16 - nI k / 16 / 4 * 4) = nI (lkN k) := el
    have er : 10 * ((1 : Int32) + (nI k / 4 - nI k / 4 / 4 * 4)) + 1 + (nI k - nI k / 4 * 4) = nI (rkN k) := er
    have hJ2 := ptJ_st (one := one) (other := other) hJ (show k < 256 by omega)
    refine z_Run_of z_tk177 [(58, [0, 1, 2, 3, 5, 6, 7])] 100 (fun C K R hC hK hR => ?_)
    refine And.intro (fun q => absurd q (show ¬ (256 : Int32) ≤ nI k from nI_ge (a := k) (b := 256) (by omega) (by omega))) (fun q => ?_)
    refine And.intro (by decide) (And.intro (by decide) (And.intro (by decide) (And.intro (by decide) (And.intro (by decide) (And.intro (by decide) ?_)))))
    conv => whnf
    refine hC _ _ _ _ (s_M_guessBy (h := z_H S) (fun v1 hv1 => ?_))
    have hv1 : v1 = guessF one (10 * ((1 : Int32) + nI k / 64) + 1 + (nI k / 16 - nI k / 16 / 4 * 4)) (10 * ((1 : Int32) + (nI k / 4 - nI k / 4 / 4 * 4)) + 1 + (nI k - nI k / 4 * 4)) := hv1
    rw [el, er] at hv1
    conv => whnf
    refine hC _ _ _ _ (s_M_guessBy (h := z_H S) (fun v2 hv2 => ?_))
    have hv2 : v2 = guessF other (10 * ((1 : Int32) + nI k / 64) + 1 + (nI k / 16 - nI k / 16 / 4 * 4)) (10 * ((1 : Int32) + (nI k / 4 - nI k / 4 / 4 * 4)) + 1 + (nI k - nI k / 4 * 4)) := hv2
    rw [el, er] at hv2
    refine And.intro (fun e => ?_) (fun e => ?_)
    · have hne : ¬ guessF one (nI (lkN k)) (nI (rkN k)) = guessF other (nI (lkN k)) (nI (rkN k)) := by
        rw [← hv1, ← hv2]
        exact e
      rw [ptS, if_neg hne] at hJ2
      refine And.intro (fun e2 => ?_) (fun e2 => ?_)
      · have h1 : ¬ st.1 = 0 := by
          intro z
          rcases hJ with ⟨-, h2⟩ | ⟨c, h1, h2, h3, -⟩
          · rw [h2] at e2
            exact absurd e2 (by decide)
          · rw [h3] at z
            exact nI_ne0 (by omega) (by omega) z
        rw [if_neg h1] at hJ2
        have := ih (k + 1) (st.1 + 1, st.2) (by omega) hJ2 (fun a ha => hz a (by rw [ha, ptR, ptS, if_neg hne, if_neg h1]))
        rw [nI_succ] at this
        exact hK _ _ _ _ this
      · have h1 : st.1 = 0 := by
          rcases hJ with ⟨h1, -⟩ | ⟨c, -, -, -, h4⟩
          · exact h1
          · exact absurd (lt_nge e2) h4
        rw [if_pos h1] at hJ2
        have := ih (k + 1) (st.1 + 1, 100 * nI (lkN k) + nI (rkN k)) (by omega) hJ2 (fun a ha => hz a (by rw [ha, ptR, ptS, if_neg hne, if_pos h1]))
        rw [nI_succ, ← el, ← er] at this
        exact hK _ _ _ _ this
    · have heq : guessF one (nI (lkN k)) (nI (rkN k)) = guessF other (nI (lkN k)) (nI (rkN k)) := by
        rw [← hv1, ← hv2]
        exact e
      rw [ptS, if_pos heq] at hJ2
      have := ih (k + 1) st (by omega) hJ2 (fun a ha => hz a (by rw [ha, ptR, ptS, if_pos heq]))
      rw [nI_succ] at this
      exact hK _ _ _ _ this
set_option maxRecDepth 20000 in
theorem s_M_partingOk (h1 : isN one 5) (h2 : isN other 5) (h3 : isN what 2) (hz : ∀ a, a = (if what = 0 then (ptR (ptS one other) 256 0 (0, -9)).1 else (ptR (ptS one other) 256 0 (0, -9)).2) → Z (some (.inl a)) (z_H S)) : z_EvM (d + 3) 73 177 [z_p 59, .inl one, .inl other, .inl what] (z_H S) Z := by
  refine z_go (c := 8) (t := z_t177) rfl rfl rfl z_tk177 [(58, [0, 1, 2, 3, 5, 6, 7])] 100 (fun C K R hC hK hR => ?_)
  conv => whnf
  refine hC _ _ _ _ (s_M_isInP 5 (by omega) rfl (fun r1 hr1 => ?_))
  refine And.intro (fun e => absurd h1 (zb_f hr1 e)) (fun _ => ?_)
  conv => whnf
  refine hC _ _ _ _ (s_M_isInP 5 (by omega) rfl (fun r2 hr2 => ?_))
  refine And.intro (fun _ => ?_) (fun e => absurd h2 (zb_f hr2 e))
  conv => whnf
  refine hC _ _ _ _ (s_M_isInP 2 (by omega) rfl (fun r3 hr3 => ?_))
  refine And.intro (fun e => absurd h3 (zb_f hr3 e)) (fun _ => ?_)
  refine And.intro (fun _ => ?_) (fun e => absurd rfl e)
  exact hK _ _ _ _ (l_M_parting (d := d) 256 0 (0, -9) (by omega) (Or.inl ⟨rfl, rfl⟩) hz)
set_option maxRecDepth 20000 in
theorem s_M_partingNo (h : ¬ (isN one 5 ∧ isN other 5)) (hz : Z (some (.inl (-1))) (z_H (z_rm2 S 1))) : z_EvM (d + 3) 73 177 [z_p 59, .inl one, .inl other, .inl what] (z_H S) Z := by
  refine z_go (c := 8) (t := z_t177) rfl rfl rfl z_tk177 [] 100 (fun C K R hC hK hR => ?_)
  conv => whnf
  refine hC _ _ _ _ (s_M_isInP 5 (by omega) rfl (fun r1 hr1 => ?_))
  refine And.intro (fun e => ?_) (fun e1 => ?_)
  · refine And.intro (fun e => absurd e (by decide)) (fun _ => ?_)
    conv => whnf
    refine hC _ _ _ _ (s_M_refuse (k := 1) (by omega) rfl ?_)
    exact hR _ _ ⟨_, rfl, rfl⟩ hz
  · conv => whnf
    refine hC _ _ _ _ (s_M_isInP 5 (by omega) rfl (fun r2 hr2 => ?_))
    refine And.intro (fun e => absurd ⟨zb_t hr1 e1, zb_t hr2 e⟩ h) (fun _ => ?_)
    refine And.intro (fun e => absurd e (by decide)) (fun _ => ?_)
    conv => whnf
    refine hC _ _ _ _ (s_M_refuse (k := 1) (by omega) rfl ?_)
    exact hR _ _ ⟨_, rfl, rfl⟩ hz
set_option maxRecDepth 20000 in
theorem s_M_partingWh (h1 : isN one 5) (h2 : isN other 5) (h3 : ¬ isN what 2) (hz : Z (some (.inl (-2))) (z_H (z_rm2 S 2))) : z_EvM (d + 3) 73 177 [z_p 59, .inl one, .inl other, .inl what] (z_H S) Z := by
  refine z_go (c := 8) (t := z_t177) rfl rfl rfl z_tk177 [] 100 (fun C K R hC hK hR => ?_)
  conv => whnf
  refine hC _ _ _ _ (s_M_isInP 5 (by omega) rfl (fun r1 hr1 => ?_))
  refine And.intro (fun e => absurd h1 (zb_f hr1 e)) (fun _ => ?_)
  conv => whnf
  refine hC _ _ _ _ (s_M_isInP 5 (by omega) rfl (fun r2 hr2 => ?_))
  refine And.intro (fun _ => ?_) (fun e => absurd h2 (zb_f hr2 e))
  conv => whnf
  refine hC _ _ _ _ (s_M_isInP 2 (by omega) rfl (fun r3 hr3 => ?_))
  refine And.intro (fun _ => ?_) (fun e => absurd (zb_t hr3 e) h3)
  refine And.intro (fun e => absurd e (by decide)) (fun _ => ?_)
  conv => whnf
  refine hC _ _ _ _ (s_M_refuse (k := 2) (by omega) rfl ?_)
  exact hR _ _ ⟨_, rfl, rfl⟩ hz
end
set_option maxRecDepth 20000 in
theorem op_parting (one other what : Int32) : z_op 88 177 [.inl one, .inl other, .inl what] := by
  intro S hI Z hz
  have bad : ¬ (isN one 5 ∧ isN other 5) → z_Run 600 73 (z_own 7) z_m88.2.1 z_m88.2.2.1 none (fun v h' => z_nar z_m88.2.2.2.1 v ∧ Z v h') 14 [(0, z_p 0)] [] (z_H S) := by
    intro h
    refine z_Run_of z_tk88 [] 60 (fun C K R hC hK hR => ?_)
    conv => whnf
    refine hC _ _ _ _ (s_X_refuse 1 (by omega) rfl ?_)
    exact hR _ _ ⟨⟨_, rfl, rfl⟩, hz _ _ (fun Z2 hz2 => s_M_partingNo h (hz2 _ _ rfl (Inv_ref hI (by omega))))⟩
  have main : isN one 5 → isN other 5 → isN what 2 → z_Run 600 73 (z_own 7) z_m88.2.1 z_m88.2.2.1 none (fun v h' => z_nar z_m88.2.2.2.1 v ∧ Z v h') 36 [(0, z_p 0), (1, .inl one), (2, .inl other), (3, .inl what)] [] (z_H S) := by
    intro h1 h2 h3
    refine z_Run_of z_tk88 [(47, [0, 1, 2, 3, 4, 5, 6])] 60 (fun C K R hC hK hR => ?_)
    refine hK _ _ _ _ (l_X_parting (d := 596) 34 11 (0, -9) (by omega) (by omega) (fun a ha => hz a S (fun Z2 hz2 => ?_)))
    rw [pt_eq] at ha
    exact s_M_partingOk h1 h2 h3 (fun b hb => hz2 b S (hb.trans ha.symm) hI)
  refine z_go (c := 7) (t := z_t88) rfl rfl rfl z_tk88 [(14, [0]), (36, [0, 1, 2, 3])] 100 (fun C K R hC hK hR => ?_)
  conv => whnf
  refine hC _ _ _ _ (s_X_isRuleP (fun r1 hr1 => ?_))
  refine And.intro (fun e => hK _ _ _ _ (bad (fun z => zb_f hr1 e z.1))) (fun e1 => ?_)
  conv => whnf
  refine hC _ _ _ _ (s_X_isRuleP (fun r2 hr2 => ?_))
  refine And.intro (fun e2 => ?_) (fun e => hK _ _ _ _ (bad (fun z => zb_f hr2 e z.2)))
  refine And.intro (fun q => hK _ _ _ _ (main (zb_t hr1 e1) (zb_t hr2 e2) (isN2.mpr (Or.inl q)))) (fun q => ?_)
  refine And.intro (fun q2 => hK _ _ _ _ (main (zb_t hr1 e1) (zb_t hr2 e2) (isN2.mpr (Or.inr q2)))) (fun q2 => ?_)
  conv => whnf
  refine hC _ _ _ _ (s_X_refuse 2 (by omega) rfl ?_)
  refine hR _ _ ⟨_, rfl, rfl⟩ (hz _ (z_rx S 2) (fun Z2 hz2 => ?_))
  exact s_M_partingWh (zb_t hr1 e1) (zb_t hr2 e2) (fun z => (isN2.mp z).elim q q2) (hz2 _ _ rfl (Inv_ref hI (by omega)))
