/-! placings: the class's going through, its look -/
def P_cx (S : z_S) (L n : Nat) (turn : Nat → Int32 → Int32) : Prop := S.1 25 = nI n ∧ S.1 26 = nI (2 * L) ∧ (∀ s, s < 2 * L → S.2 44 s = seatF L s) ∧ (∀ i, i < n → ∀ s, s < 2 * L → S.2 (46 + i) s = turn i (seatF L s))
def P_sp (S : z_S) (L n : Nat) (turn : Nat → Int32 → Int32) (e m c : Nat) : Prop := ∀ (t : Nat) (at' : Nat → Int32) (sum : Int32) (a : z_Pa) (lv le : Int32) (be at2 : Nat → Int32) (Z : z_Zt), mkP L c t at' → (∀ k, k < c → at2 k = at' k) → aR n a lv le be → (∀ lv' le' be' at3, aR n (plF L turn m c at' sum a) lv' le' be' → (∀ k, k < c → at3 k = at' k) → Z none (z_H (pS S lv' le' be' at3))) → z_EvM e 73 44 [z_p 41, .inl (nI c), .inl (nI t), .inl sum] (z_H (pS S lv le be at2)) Z
section
variable {S : z_S} {L n : Nat} {turn : Nat → Int32 → Int32} {Z : z_Zt}
set_option maxRecDepth 20000 in
theorem r_P_call {d : Nat} {c s : Nat} {t sum lv le : Int32} {be at2 : Nat → Int32} (hc : c < 5) (hs : s < 12) (tail : z_Run (d + 1) 73 (z_own 4) z_m44.2.1 z_m44.2.2.1 none (fun v h' => z_nar z_m44.2.2.2.1 v ∧ Z v h') 74 [(0, z_p 41), (1, .inl (nI c)), (2, .inl t), (3, .inl sum), (4, .inl (nI s))] [.inl (sum + S.2 (46 + c) (nI s).toNatClampNeg), .inl (t ||| ((1 : Int32) <<< (nI s &&& 31))), .inl (nI c + 1), z_p 41] (z_H (pS S lv le be at2))) : z_Run (d + 1) 73 (z_own 4) z_m44.2.1 z_m44.2.2.1 none (fun v h' => z_nar z_m44.2.2.2.1 v ∧ Z v h') 53 [(0, z_p 41), (1, .inl (nI c)), (2, .inl t), (3, .inl sum), (4, .inl (nI s))] [] (z_H (pS S lv le be at2)) := by
  have hin : vp_in (nI s) 12 := vp_in_nI hs (by omega)
  refine z_Run_of z_tk44 [(74, [0, 1, 2, 3, 4])] 60 (fun C K R hC hK hR => ?_)
  rcases c with _ | _ | _ | _ | _ | c
  · refine And.intro (vp_in_nI (by omega) (by omega)) ?_
    refine And.intro hin ?_
    exact hK _ _ _ _ tail
  · refine And.intro (vp_in_nI (by omega) (by omega)) ?_
    refine And.intro hin ?_
    exact hK _ _ _ _ tail
  · refine And.intro (vp_in_nI (by omega) (by omega)) ?_
    refine And.intro hin ?_
    exact hK _ _ _ _ tail
  · refine And.intro (vp_in_nI (by omega) (by omega)) ?_
    refine And.intro hin ?_
    exact hK _ _ _ _ tail
  · refine And.intro (vp_in_nI (by omega) (by omega)) ?_
    refine And.intro hin ?_
    exact hK _ _ _ _ tail
  · omega
set_option maxRecDepth 20000 in
theorem l_P_goThrough {e m c t : Nat} {at' : Nat → Int32} {sum : Int32} (cx : P_cx S L n turn) (hL : L ≤ 6) (hn : n ≤ 5) (hcm : c + (m + 1) = n) (hm : mkP L c t at') (rc : P_sp S L n turn e m (c + 1)) : ∀ r s (a : z_Pa) lv le (be at2 : Nat → Int32), s + r = 2 * L → aR n a lv le be → (∀ k, k < c → at2 k = at' k) → (∀ lv' le' be' at3, aR n (itF (plG L turn m c at' sum) r s a) lv' le' be' → (∀ k, k < c → at3 k = at' k) → Z none (z_H (pS S lv' le' be' at3))) → z_Run (e + 1) 73 (z_own 4) z_m44.2.1 z_m44.2.2.1 none (fun v h' => z_nar z_m44.2.2.2.1 v ∧ Z v h') 22 [(0, z_p 41), (1, .inl (nI c)), (2, .inl (nI t)), (3, .inl sum), (4, .inl (nI s))] [] (z_H (pS S lv le be at2)) := by
  obtain ⟨cx1, cx2, cx3, cx4⟩ := cx
  have ht : t < 2 ^ 31 := by have := hm.1; omega
  intro r
  induction r with
  | zero =>
    intro s a lv le be at2 hs ha hat hz
    refine z_Run_of z_tk44 [] 60 (fun C K R hC hK hR => ?_)
    refine And.intro (fun q => ?_) (fun q => absurd (show S.1 26 ≤ nI s by rw [cx2]; exact nI_le (by omega) (by omega)) q)
    exact hR _ _ ⟨rfl, hz lv le be at2 ha hat⟩
  | succ r ih =>
    intro s a lv le be at2 hs ha hat hz
    have hcl : (nI s).toNatClampNeg = s := nI_clamp (by omega)
    have hcc : (nI c).toNatClampNeg = c := nI_clamp (by omega)
    have hin : vp_in (nI s) 12 := vp_in_nI (by omega) (by omega)
    have hic : vp_in (nI c) 5 := vp_in_nI (by omega) (by omega)
    have hb := bi_tst (t := t) (s := s) ht (by omega)
    have hu := hm.2 s (by omega)
    refine z_Run_of z_tk44 [(22, [0, 1, 2, 3, 4]), (53, [0, 1, 2, 3, 4])] 60 (fun C K R hC hK hR => ?_)
    refine And.intro (fun q => absurd (show S.1 26 ≤ nI s from q) (by rw [cx2]; exact nI_ge (by omega) (by omega))) (fun q => ?_)
    refine And.intro (fun e1 => ?_) (fun e1 => ?_)
    · have hu2 : usedF c at' (seatF L s) = true := by
        rw [← hu]
        cases h9 : t.testBit s
        · exact absurd (hb.mpr h9) e1
        · rfl
      have := ih (s + 1) a lv le be at2 (by omega) ha hat (fun lv' le' be' at3 h1 h2 => hz lv' le' be' at3 (by rw [itF_S, plG, if_pos hu2]; exact h1) h2)
      rw [nI_succ] at this
      exact hK _ _ _ _ this
    · have hu2 : ¬ usedF c at' (seatF L s) = true := by
        rw [← hu, hb.mp e1]
        exact Bool.false_ne_true
      refine And.intro hin (And.intro hic ?_)
      refine hK _ _ _ _ (show z_Run (e + 1) 73 (z_own 4) z_m44.2.1 z_m44.2.2.1 none (fun v h' => z_nar z_m44.2.2.2.1 v ∧ Z v h') 53 [(0, z_p 41), (1, .inl (nI c)), (2, .inl (nI t)), (3, .inl sum), (4, .inl (nI s))] [] (z_H (pS S lv le be (upd at2 (nI c).toNatClampNeg (S.2 44 (nI s).toNatClampNeg)))) from ?_)
      rw [hcl, hcc, cx3 s (by omega)]
      refine r_P_call (by omega) (by omega) ?_
      rw [hcl, cx4 c (by omega) s (by omega), bi_one ⟨s, by omega⟩, bi_or]
      refine z_Run_of z_tk44 [(22, [0, 1, 2, 3, 4])] 60 (fun C K R hC hK hR => ?_)
      rw [← nI_succ]
      conv => whnf
      refine hC _ _ _ _ (rc (t ||| 2 ^ s) (upd at' c (seatF L s)) (sum + turn c (seatF L s)) a lv le be (upd at2 c (seatF L s)) _ (mkP_st hm hL (by omega)) (fun k hk => ?_) ha (fun lv' le' be' at3 h1 h2 => ?_))
      · by_cases q : k = c
        · subst q; rw [pk_us, pk_us]
        · rw [pk_un q, pk_un q]; exact hat k (by omega)
      · have := ih (s + 1) _ lv' le' be' at3 (by omega) h1 (fun k hk => by rw [h2 k (by omega), pk_un (by omega)]) (fun lv2 le2 be2 at4 h3 h4 => hz lv2 le2 be2 at4 (by rw [itF_S, plG, if_neg hu2]; exact h3) h4)
        rw [nI_succ] at this
        exact hK _ _ _ _ this
set_option maxRecDepth 20000 in
theorem s_P_goThrough (cx : P_cx S L n turn) (hL : L ≤ 6) (hn : n ≤ 5) : ∀ m c e, c + m = n → m + 2 ≤ e → P_sp S L n turn e m c := by
  intro m
  induction m with
  | zero =>
    intro c e hc he t at' sum a lv le be at2 Z hm hat ha hz
    obtain ⟨d, rfl⟩ : ∃ d, e = d + 2 := ⟨e - 2, by omega⟩
    have hc : c = n := by omega
    subst hc
    have tail : z_Run (d + 2) 73 (z_own 4) z_m44.2.1 z_m44.2.2.1 none (fun v h' => z_nar z_m44.2.2.2.1 v ∧ Z v h') 13 [(0, z_p 41), (3, .inl sum)] [] (z_H (pS S lv le be at2)) := by
      refine z_Run_of z_tk44 [] 60 (fun C K R hC hK hR => ?_)
      conv => whnf
      refine hC _ _ _ _ (s_P_weigh hn ha hat (fun lv' le' be' h1 => ?_))
      exact hR _ _ ⟨rfl, hz lv' le' be' at2 (by rw [plF_0]; exact h1) hat⟩
    refine z_go (c := 4) (t := z_t44) rfl rfl rfl z_tk44 [(13, [0, 3])] 60 (fun C K R hC hK hR => ?_)
    refine And.intro (fun q => hK _ _ _ _ tail) (fun q => absurd (show S.1 25 ≤ nI c by rw [cx.1]; exact nI_le (by omega) (by omega)) q)
  | succ m ih =>
    intro c e hc he t at' sum a lv le be at2 Z hm hat ha hz
    obtain ⟨d, rfl⟩ : ∃ d, e = d + 1 := ⟨e - 1, by omega⟩
    have rc := ih (c + 1) d (by omega) (by omega)
    refine z_go (c := 4) (t := z_t44) rfl rfl rfl z_tk44 [(22, [0, 1, 2, 3, 4])] 60 (fun C K R hC hK hR => ?_)
    refine And.intro (fun q => absurd (show S.1 25 ≤ nI c from q) (by rw [cx.1]; exact nI_ge (by omega) (by omega))) (fun q => ?_)
    refine And.intro (fun q2 => ?_) (fun q2 => absurd (show nI c < 5 from nI_lt (a := c) (b := 5) (by omega) (by omega)) q2)
    refine hK _ _ _ _ (l_P_goThrough (e := d) cx hL hn hc hm rc (2 * L) 0 a lv le be at2 (by omega) ha hat (fun lv' le' be' at3 h1 h2 => hz lv' le' be' at3 (by rw [plF_S]; exact h1) h2))
end
