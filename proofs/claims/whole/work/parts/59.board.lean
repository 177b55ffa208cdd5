/-! the board is told: both -/
def e0S (S : z_S) : z_S := (S.1, fun r => match r with | 0 => va_cpy (S.2 5) (S.2 10) 0 0 5 | 1 => va_cpy (S.2 6) (S.2 11) 0 0 5 | 2 => va_cpy (S.2 7) (S.2 12) 0 0 5 | _ => va_cpy (S.2 8) (S.2 13) 0 0 5)
theorem e0_eqv (S : z_S) : eqv (e0S S) (dN S) := by
  refine ⟨fun i hi => ?_, fun r hr k hk => ?_⟩
  · rcases i with _ | _ | _ | _ | i
    · rfl
    · rfl
    · rfl
    · rfl
    · omega
  · rcases r with _ | _ | _ | _ | r
    · exact cpy_at (f := S.2 5) (g := S.2 10) hk
    · exact cpy_at (f := S.2 6) (g := S.2 11) hk
    · exact cpy_at (f := S.2 7) (g := S.2 12) hk
    · exact cpy_at (f := S.2 8) (g := S.2 13) hk
    · omega
theorem e0_S (S : z_S) (pl ve : Int32) (f : Nat → Int32) : z_H (z_u (bec10 (tS S pl ve f)) 35 0) = z_H (tS (btS S (e0S S)) 0 ve f) := rfl
def bxS (S E : z_S) (pl ve : Int32) (f : Nat → Int32) : z_S := z_u (bec01 (tS (btS S E) pl ve f)) 22 0
theorem okB_N {S : z_S} {n g u : Nat} (h : z_ok (dN S) n g u) : okB (dN S) n := by
  obtain ⟨a1, a2, a3, a4, a5, a6, a7, a8, a9, -⟩ := h
  exact ⟨a1, a4, a5, a6, a7, a8, a9⟩
theorem ok_okB {D D' : z_S} {n n' g u : Nat} (h : z_ok D n g u) (hb : okB D' n') (hr : z_rest D D') : z_ok D' n' g u := by
  obtain ⟨a1, a2, a3, a4, a5, a6, a7, a8, a9, a10⟩ := h
  obtain ⟨b1, b4, b5, b6, b7, b8, b9⟩ := hb
  obtain ⟨r1, r2, r3⟩ := hr
  exact ⟨b1, ⟨a2.1, r1.trans a2.2⟩, ⟨a3.1, r2.trans a3.2⟩, b4, b5, b6, b7, b8, b9, by rw [r3 8 (by omega), r3 9 (by omega)]; exact a10⟩
set_option maxRecDepth 20000 in
theorem s_T_empty {d : Nat} {S : z_S} {Z : z_Zt} (hz : Z none (z_H (z_u (z_u S 34 0) 35 0))) : z_EvM (d + 1) 73 52 [z_p 1] (z_H S) Z := by
  refine z_go (c := 6) (t := z_t52) rfl rfl rfl z_tk52 [] 100 (fun C K R hC hK hR => ?_)
  exact hR _ _ rfl hz
set_option maxRecDepth 20000 in
theorem s_X_readBoard {d t n : Nat} {S : z_S} {Z : z_Zt} (ht : S.1 34 = nI t) (ht8 : t ≤ 80) (hok : okB (dN S) n) (hA : ∀ q, fpF (gF (S.2 2) t) t 81 0 0 = .inl q → ∀ pl ve f, Z (some (.inl (-1000 - nI q))) (z_H (tS S pl ve f))) (hB : ∀ k q, fpF (gF (S.2 2) t) t 81 0 0 = .inr k → p2F (gF (S.2 2) t) t 81 0 0 (dN S) n = .inl q → ∀ E pl ve f, Z (some (.inl (-2000 - nI q))) (z_H (tS (btS S E) pl ve f))) (hY : ∀ k r, fpF (gF (S.2 2) t) t 81 0 0 = .inr k → p2F (gF (S.2 2) t) t 81 0 0 (dN S) n = .inr r → ∀ E pl ve f, eqv E r.1 → Z (some (.inl (nI r.2.2))) (z_H (bxS S E pl ve f))) : z_EvM (d + 12) 73 99 [z_p 0] (z_H S) Z := by
  refine z_go (c := 7) (t := z_t99) rfl rfl rfl z_tk99 [(39, [0, 2])] 60 (fun C K R hC hK hR => ?_)
  conv => whnf
  refine hC _ _ _ _ (s_T_faultPlace (S := S) (pl := S.1 35) (ve := S.1 36) (f := S.2 3) ht ht8 ?_)
  cases hf : fpF (gF (S.2 2) t) t 81 0 0 with
  | inl q =>
    intro ve f hq
    refine And.intro (fun e => absurd (show nI q < 0 from e) ?_) (fun _ => ?_)
    · exact (show ¬ nI q < nI 0 from nI_nlt (by omega) (by omega))
    · exact hR _ _ ⟨_, rfl, rfl⟩ (hA q hf _ _ _)
  | inr k =>
    intro pl ve f
    have tp : 0 < t := by
      by_cases z : 0 < t
      · exact z
      · have z : t = 0 := by omega
        subst z
        have g0 : ∀ p, gF (S.2 2) 0 p = -1 := fun p => if_neg (by omega)
        rw [fpF] at hf
        unfold rsF at hf
        rw [g0 0] at hf
        cases hf
    refine And.intro (fun _ => ?_) (fun e => absurd (by decide) e)
    conv => whnf
    refine hC _ _ _ _ (s_B_become10 (S := tS S pl ve f) ?_)
    have h39 := l_X_rb (d := d + 1) (S := S) (Z := Z) (N := fun S' D m st => Z (some (.inl (nI st))) (z_H (z_u (bec01 S') 22 0))) ht ht8 (fun S' D m st hN => ?_) 81 0 0 (e0S S) (dN S) n ve f (by omega) (by omega) tp (e0_eqv S) hok ?_
    · rw [show (nI 0 : Int32) = 0 from rfl, ← e0_S S pl] at h39
      exact hK _ _ _ _ h39
    · refine z_Run_of z_tk99 [] 60 (fun C K R hC hK hR => ?_)
      conv => whnf
      refine hC _ _ _ _ (s_B_become01 (S := S') ?_)
      conv => whnf
      refine hC _ _ _ _ (s_P_forget (S := bec01 S') ?_)
      exact hR _ _ ⟨⟨_, rfl, rfl⟩, hN⟩
    · cases hp : p2F (gF (S.2 2) t) t 81 0 0 (dN S) n with
      | inl q => exact fun E pl ve f => hB k q hf hp E pl ve f
      | inr r => exact fun E pl ve f he => hY k r hf hp E pl ve f he
theorem bx_dq {S E D : z_S} {pl ve : Int32} {f : Nat → Int32} (he : eqv E D) (hr : z_rest (dN S) D) : z_dq D (dN (bxS S E pl ve f)) := by
  obtain ⟨r1, r2, r3⟩ := hr
  refine ⟨fun i hi => ?_, fun r hr k hk => ?_, fun r hr k hk => ?_, fun r hr k hk => ?_⟩
  · rcases i with _ | _ | _ | _ | _ | _ | i
    · exact he.1 0 (by omega)
    · exact he.1 1 (by omega)
    · exact he.1 2 (by omega)
    · exact he.1 3 (by omega)
    · exact r1.symm
    · exact r2.symm
    · omega
  · rcases r with _ | _ | _ | _ | r
    · exact (cpy_at (f := E.2 0) (g := S.2 5) hk).trans (he.2 0 (by omega) k hk)
    · exact (cpy_at (f := E.2 1) (g := S.2 6) hk).trans (he.2 1 (by omega) k hk)
    · exact (cpy_at (f := E.2 2) (g := S.2 7) hk).trans (he.2 2 (by omega) k hk)
    · exact (cpy_at (f := E.2 3) (g := S.2 8) hk).trans (he.2 3 (by omega) k hk)
    · omega
  · rcases r with _ | _ | _ | _ | r
    · exact congrFun (r3 4 (by omega)).symm k
    · exact congrFun (r3 5 (by omega)).symm k
    · exact congrFun (r3 6 (by omega)).symm k
    · exact congrFun (r3 7 (by omega)).symm k
    · omega
  · rcases r with _ | _ | _ | r
    · exact congrFun (r3 8 (by omega)).symm k
    · exact congrFun (r3 9 (by omega)).symm k
    · exact congrFun (r3 10 (by omega)).symm k
    · omega
set_option maxRecDepth 20000 in
theorem s_M_board {d t n : Nat} {S D : z_S} {Z : z_Zt} (ht : S.1 40 = nI t) (ht8 : t ≤ 80) (hD : z_Rl (S.2 61) D) (hok : okB D n) (h1 : ∀ q, fpF (gF (S.2 64) t) t 81 0 0 = .inl q → ∀ f, Z (some (.inl (-1000 - nI q))) (z_H (z_u (uS S (nI q) f) 40 0))) (h2 : ∀ k q, fpF (gF (S.2 64) t) t 81 0 0 = .inr k → p2F (gF (S.2 64) t) t 81 0 0 D n = .inl q → ∀ e pl f, Z (some (.inl (-2000 - nI q))) (z_H (z_u (rS' S e pl f) 40 0))) (h3 : ∀ k r, fpF (gF (S.2 64) t) t 81 0 0 = .inr k → p2F (gF (S.2 64) t) t 81 0 0 D n = .inr r → ∀ e pl f f', z_Rl e r.1 → (∀ i, i < 90 → f' i = e i) → Z (some (.inl (nI k))) (z_H (z_u (z_w (rS' S e pl f) 61 f') 40 0))) : z_EvM (d + 5) 73 131 [z_p 59] (z_H S) Z := by
  refine z_go (c := 8) (t := z_t131) rfl rfl rfl z_tk131 [] 60 (fun C K R hC hK hR => ?_)
  conv => whnf
  refine hC _ _ _ _ (s_M_reads (S := S) (D := D) (n := n) (pl := S.1 41) (f := S.2 65) ht ht8 hD hok (fun q hq _ f => ?_) (fun k hk => ?_))
  · exact hR _ _ ⟨_, rfl, rfl⟩ (h1 q hq f)
  · cases hp : p2F (gF (S.2 64) t) t 81 0 0 D n with
    | inl q => exact fun e pl f => hR _ _ ⟨_, rfl, rfl⟩ (h2 k q hk hp e pl f)
    | inr r => exact fun e pl f f' he hf' => hR _ _ ⟨_, rfl, rfl⟩ (h3 k r hk hp e pl f f' he hf')
theorem gF_cg {f f' : Nat → Int32} {t : Nat} (h : ∀ i, i < t → f i = f' i) : gF f t = gF f' t := by
  funext p
  unfold gF
  by_cases q : p < t
  · rw [if_pos q, if_pos q, h p q]
  · rw [if_neg q, if_neg q]
set_option maxRecDepth 20000 in
theorem op_board : z_op 64 131 [] := by
  intro S hI Z hz
  obtain ⟨n, g, u, t, w, hok, hRl, him, ⟨ht8, ht1, ht2, ht3⟩, hrw, hrf, hpl⟩ := id hI
  have hg : gF (S.2 64) t = gF (S.2 2) t := (gF_cg ht3).symm
  have hb := okB_N hok
  have tx : ∀ S' : z_S, S'.1 34 = 0 → S'.1 40 = 0 → z_txt S' 0 := fun S' h1 h2 => ⟨by omega, h1, h2, fun i hi => by omega⟩
  refine z_go (c := 7) (t := z_t64) rfl rfl rfl z_tk64 [] 60 (fun C K R hC hK hR => ?_)
  conv => whnf
  refine hC _ _ _ _ (s_X_readBoard (d := 587) (S := S) (t := t) (n := n) ht1 ht8 hb (fun q hq pl ve f => ?_) (fun k q hk hq E pl ve f => ?_) (fun k r hk hr E pl ve f he => ?_))
  · conv => whnf
    refine hC _ _ _ _ (s_T_empty (S := tS S pl ve f) ?_)
    refine hR _ _ ⟨_, rfl, rfl⟩ (hz (-1000 - nI q) (z_u (z_u (tS S pl ve f) 34 0) 35 0) (fun Z2 hz2 => ?_))
    refine s_M_board (d := 595) (S := z_u (z_u (tS S pl ve f) 34 0) 35 0) (D := dN S) (n := n) ht2 ht8 hRl hb (fun q' hq' f' => ?_) (fun k' q' hk' => ?_) (fun k' r' hk' => ?_)
    · replace hq' : fpF (gF (S.2 64) t) t 81 0 0 = .inl q' := hq'
      rw [hg, hq] at hq'
      cases hq'
      exact hz2 _ _ rfl ⟨n, g, u, 0, w, hok, hRl, him, tx _ rfl rfl, hrw, hrf, hpl⟩
    · replace hk' : fpF (gF (S.2 64) t) t 81 0 0 = .inr k' := hk'
      rw [hg, hq] at hk'
      cases hk'
    · replace hk' : fpF (gF (S.2 64) t) t 81 0 0 = .inr k' := hk'
      rw [hg, hq] at hk'
      cases hk'
  · conv => whnf
    refine hC _ _ _ _ (s_T_empty (S := tS (btS S E) pl ve f) ?_)
    refine hR _ _ ⟨_, rfl, rfl⟩ (hz (-2000 - nI q) (z_u (z_u (tS (btS S E) pl ve f) 34 0) 35 0) (fun Z2 hz2 => ?_))
    refine s_M_board (d := 595) (S := z_u (z_u (tS (btS S E) pl ve f) 34 0) 35 0) (D := dN S) (n := n) ht2 ht8 hRl hb (fun q' hq' f' => ?_) (fun k' q' hk' hq' e' pl' f' => ?_) (fun k' r' hk' hr' => ?_)
    · replace hq' : fpF (gF (S.2 64) t) t 81 0 0 = .inl q' := hq'
      rw [hg, hk] at hq'
      cases hq'
    · replace hq' : p2F (gF (S.2 64) t) t 81 0 0 (dN S) n = .inl q' := hq'
      rw [hg, hq] at hq'
      cases hq'
      exact hz2 _ _ rfl ⟨n, g, u, 0, w, hok, hRl, him, tx _ rfl rfl, hrw, hrf, hpl⟩
    · replace hr' : p2F (gF (S.2 64) t) t 81 0 0 (dN S) n = .inr r' := hr'
      rw [hg, hq] at hr'
      cases hr'
  · conv => whnf
    refine hC _ _ _ _ (s_T_empty (S := bxS S E pl ve f) ?_)
    have hcn := p2_cnt _ _ _ _ _ _ hk hr
    obtain ⟨ok', rs'⟩ := p2_ok (rfl : gF (S.2 2) t = gF (S.2 2) t) _ _ _ _ _ _ hb hr
    refine hR _ _ ⟨_, rfl, rfl⟩ (hz (nI r.2.2) (z_u (z_u (bxS S E pl ve f) 34 0) 35 0) (fun Z2 hz2 => ?_))
    refine s_M_board (d := 595) (S := z_u (z_u (bxS S E pl ve f) 34 0) 35 0) (D := dN S) (n := n) ht2 ht8 hRl hb (fun q' hq' f' => ?_) (fun k' q' hk' hq' => ?_) (fun k' r' hk' hr' e' pl' f' g' he' hg' => ?_)
    · replace hq' : fpF (gF (S.2 64) t) t 81 0 0 = .inl q' := hq'
      rw [hg, hk] at hq'
      cases hq'
    · replace hq' : p2F (gF (S.2 64) t) t 81 0 0 (dN S) n = .inl q' := hq'
      rw [hg, hr] at hq'
      cases hq'
    · replace hk' : fpF (gF (S.2 64) t) t 81 0 0 = .inr k' := hk'
      replace hr' : p2F (gF (S.2 64) t) t 81 0 0 (dN S) n = .inr r' := hr'
      rw [hg, hk] at hk'
      rw [hg, hr] at hr'
      cases hk'
      cases hr'
      have dq := bx_dq (pl := pl) (ve := ve) (f := f) he rs'
      exact hz2 _ _ (by rw [hcn]) ⟨r.2.1, g, u, 0, w, dq_ok (ok_okB hok ok' rs') dq, dq_Rl he' hg' dq, him, tx _ rfl rfl, hrw, hrf, Or.inl rfl⟩
