/-! the text of the class: a statement whole -/
def tdR (v : Int32) (f : Nat → Int32) (a b c : Int32) : Prop := f 0 = a ∧ ((v = 98 ∨ v = 99 ∨ v = 115) → f 1 = b) ∧ ((v = 99 ∨ v = 115) → f 2 = c)
def tP (Z : z_Zt) (S : z_S) (ve : Int32) : z_RS → Prop
  | .inl p' => ∀ f, Z (some (.inl 0)) (z_H (tS S (nI p') ve f))
  | .inr r => ∀ f, tdR ve f r.2.1 r.2.2.1 r.2.2.2 → Z (some (.inl 1)) (z_H (tS S (nI r.1) ve f))
theorem nm_n2 {g : Nat → Int32} {p : Nat} (h : isD (g p)) : ¬ nmF g p = -2 := by
  unfold nmF
  rw [if_pos h]
  by_cases q : isD (g (p + 1))
  · rw [if_pos q]
    have h1 := h.1
    have h2 := h.2
    have q1 := q.1
    have q2 := q.2
    generalize g p = x at h1 h2
    generalize g (p + 1) = y at q1 q2
    clear h q
    grind
  · rw [if_neg q]
    exact (dgF_y h).2
theorem nm_le {le : Nat → Int32} {t p : Nat} (h : isD (gF le t p)) : nmN (gF le t) p ≤ t := by
  unfold nmN
  rw [if_pos h]
  by_cases q : isD (gF le t (p + 1))
  · rw [if_pos q]
    have := isD_lt q
    omega
  · rw [if_neg q]
    have := isD_lt h
    omega
section
variable {d t p q v i : Nat} {S : z_S} {Z : z_Zt} {ve : Int32} {f : Nat → Int32} {k : Int32 → Nat → z_RS} {k1 : Nat → z_RS}
set_option maxRecDepth 20000 in
theorem r_T_D (hq : q < 5) (hi : i < z_len.getD q 0) (hl : z_len.getD q 0 ≤ 5) (hc : chS q i = 68) (hv : v < 3) (ht : S.1 34 = nI t) (ht8 : t ≤ 80) (hp8 : p ≤ t) (h : tP Z S ve (rD (gF (S.2 2) t) p k)) (next : p + 1 ≤ t → tP Z S ve (k (gF (S.2 2) t p - 48) (p + 1)) → lpT d Z q (v + 1) (i + 1) (tS S (nI (p + 1)) ve (upd f v (gF (S.2 2) t p - 48)))) : lpT d Z q v i (tS S (nI p) ve f) := by
  unfold rD at h
  by_cases z : isD (gF (S.2 2) t p)
  · rw [if_pos z] at h
    obtain ⟨y1, y2⟩ := dgF_y z
    have yv : vlF 68 (gF (S.2 2) t p) = gF (S.2 2) t p - 48 := (if_pos rfl).trans y1
    exact r_T_step (p' := p + 1) (val := gF (S.2 2) t p - 48) hq hi hl hc rfl (Nat.le_of_lt hv) (fun _ => hv) ht ht8 hp8 (fun e => absurd e (by decide)) (fun _ => ⟨yv.symm, by rw [yv, if_neg y2]⟩) (fun e => absurd e y2) (fun _ e => absurd e (by decide)) (fun _ _ => next (isD_lt z) h)
  · rw [if_neg z] at h
    have yv : vlF 68 (gF (S.2 2) t p) = -2 := (if_pos rfl).trans (dgF_n z)
    exact r_T_step (p' := p) (val := -2) hq hi hl hc rfl (Nat.le_of_lt hv) (fun _ => hv) ht ht8 hp8 (fun e => absurd e (by decide)) (fun _ => ⟨yv.symm, by rw [if_pos yv]⟩) (fun _ => h f) (fun e => absurd rfl e) (fun e => absurd rfl e)
set_option maxRecDepth 20000 in
theorem r_T_N (hq : q < 5) (hi : i < z_len.getD q 0) (hl : z_len.getD q 0 ≤ 5) (hc : chS q i = 78) (hv : v < 3) (ht : S.1 34 = nI t) (ht8 : t ≤ 80) (hp8 : p ≤ t) (h : tP Z S ve (rN (gF (S.2 2) t) p k)) (next : nmN (gF (S.2 2) t) p ≤ t → tP Z S ve (k (nmF (gF (S.2 2) t) p) (nmN (gF (S.2 2) t) p)) → lpT d Z q (v + 1) (i + 1) (tS S (nI (nmN (gF (S.2 2) t) p)) ve (upd f v (nmF (gF (S.2 2) t) p)))) : lpT d Z q v i (tS S (nI p) ve f) := by
  unfold rN at h
  by_cases z : isD (gF (S.2 2) t p)
  · rw [if_pos z] at h
    have y2 := nm_n2 z
    exact r_T_step (p' := nmN (gF (S.2 2) t) p) (val := nmF (gF (S.2 2) t) p) hq hi hl hc rfl (Nat.le_of_lt hv) (fun _ => hv) ht ht8 hp8 (fun _ => ⟨rfl, rfl⟩) (fun e => absurd rfl e) (fun e => absurd e y2) (fun _ e => absurd e (by decide)) (fun _ _ => next (nm_le z) h)
  · rw [if_neg z] at h
    have yv : nmF (gF (S.2 2) t) p = -2 := if_neg z
    have yn : nmN (gF (S.2 2) t) p = p := if_neg z
    exact r_T_step (p' := p) (val := -2) hq hi hl hc rfl (Nat.le_of_lt hv) (fun _ => hv) ht ht8 hp8 (fun _ => ⟨yv.symm, yn.symm⟩) (fun e => absurd rfl e) (fun _ => h f) (fun e => absurd rfl e) (fun e => absurd rfl e)
set_option maxRecDepth 20000 in
theorem r_T_C {c : Int32} (hcs : c = 44 ∨ c = 59) (hq : q < 5) (hi : i < z_len.getD q 0) (hl : z_len.getD q 0 ≤ 5) (hc : chS q i = c) (hv : v ≤ 3) (ht : S.1 34 = nI t) (ht8 : t ≤ 80) (hp8 : p ≤ t) (h : tP Z S ve (rC (gF (S.2 2) t) c p k1)) (next : p + 1 ≤ t → tP Z S ve (k1 (p + 1)) → lpT d Z q v (i + 1) (tS S (nI (p + 1)) ve f)) : lpT d Z q v i (tS S (nI p) ve f) := by
  unfold rC at h
  have hcn : narrow .char (.int c) = .int c := by rcases hcs with rfl | rfl <;> rfl
  have h78 : ¬ c = 78 := by rcases hcs with rfl | rfl <;> decide
  have hvl : ∀ x, vlF c x = (if x = c then x else -2) := by intro x; rcases hcs with rfl | rfl <;> rfl
  by_cases z : gF (S.2 2) t p = c
  · rw [if_pos z] at h
    have yv : vlF c (gF (S.2 2) t p) = c := by rw [hvl, if_pos z, z]
    have y2 : ¬ c = -2 := by rcases hcs with rfl | rfl <;> decide
    have hlt : p < t := g_lt (fun w => by rw [w] at z; rcases hcs with rfl | rfl <;> exact absurd z (by decide))
    exact r_T_step (p' := p + 1) (val := c) hq hi hl hc hcn hv (fun e => absurd hcs e) ht ht8 hp8 (fun e => absurd e h78) (fun _ => ⟨yv.symm, by rw [yv, if_neg y2]⟩) (fun e => absurd e y2) (fun _ _ => next hlt h) (fun _ e => absurd hcs e)
  · rw [if_neg z] at h
    have yv : vlF c (gF (S.2 2) t p) = -2 := by rw [hvl, if_neg z]
    exact r_T_step (p' := p) (val := -2) hq hi hl hc hcn hv (fun e => absurd hcs e) ht ht8 hp8 (fun e => absurd e h78) (fun _ => ⟨yv.symm, by rw [if_pos yv]⟩) (fun _ => h f) (fun e => absurd rfl e) (fun e => absurd rfl e)
theorem kd_lt {le : Nat → Int32} (h : ¬ kdF (gF le t p) = -2) : p < t := g_lt (fun w => by rw [w] at h; exact h (by decide))
theorem sd_lt {le : Nat → Int32} (h : ¬ sdF (gF le t p) = -2) : p < t := g_lt (fun w => by rw [w] at h; exact h (by decide))
set_option maxRecDepth 20000 in
theorem r_T_K (hq : q < 5) (hi : i < z_len.getD q 0) (hl : z_len.getD q 0 ≤ 5) (hc : chS q i = 75) (hv : v < 3) (ht : S.1 34 = nI t) (ht8 : t ≤ 80) (hp8 : p ≤ t) (h : tP Z S ve (rK (gF (S.2 2) t) p k)) (next : p + 1 ≤ t → tP Z S ve (k (kdF (gF (S.2 2) t p)) (p + 1)) → lpT d Z q (v + 1) (i + 1) (tS S (nI (p + 1)) ve (upd f v (kdF (gF (S.2 2) t p))))) : lpT d Z q v i (tS S (nI p) ve f) := by
  unfold rK at h
  have yv : vlF 75 (gF (S.2 2) t p) = kdF (gF (S.2 2) t p) := (if_neg (by decide)).trans (if_pos rfl)
  by_cases z : kdF (gF (S.2 2) t p) = -2
  · rw [if_pos z] at h
    exact r_T_step (p' := p) (val := -2) hq hi hl hc rfl (Nat.le_of_lt hv) (fun _ => hv) ht ht8 hp8 (fun e => absurd e (by decide)) (fun _ => ⟨by rw [yv, z], by rw [yv, if_pos z]⟩) (fun _ => h f) (fun e => absurd rfl e) (fun e => absurd rfl e)
  · rw [if_neg z] at h
    exact r_T_step (p' := p + 1) (val := kdF (gF (S.2 2) t p)) hq hi hl hc rfl (Nat.le_of_lt hv) (fun _ => hv) ht ht8 hp8 (fun e => absurd e (by decide)) (fun _ => ⟨yv.symm, by rw [yv, if_neg z]⟩) (fun e => absurd e z) (fun _ e => absurd e (by decide)) (fun _ _ => next (kd_lt z) h)
set_option maxRecDepth 20000 in
theorem r_T_S (hq : q < 5) (hi : i < z_len.getD q 0) (hl : z_len.getD q 0 ≤ 5) (hc : chS q i = 83) (hv : v < 3) (ht : S.1 34 = nI t) (ht8 : t ≤ 80) (hp8 : p ≤ t) (h : tP Z S ve (rS (gF (S.2 2) t) p k)) (next : p + 1 ≤ t → tP Z S ve (k (sdF (gF (S.2 2) t p)) (p + 1)) → lpT d Z q (v + 1) (i + 1) (tS S (nI (p + 1)) ve (upd f v (sdF (gF (S.2 2) t p))))) : lpT d Z q v i (tS S (nI p) ve f) := by
  unfold rS at h
  have yv : vlF 83 (gF (S.2 2) t p) = sdF (gF (S.2 2) t p) := (if_neg (by decide)).trans ((if_neg (by decide)).trans (if_pos rfl))
  by_cases z : sdF (gF (S.2 2) t p) = -2
  · rw [if_pos z] at h
    exact r_T_step (p' := p) (val := -2) hq hi hl hc rfl (Nat.le_of_lt hv) (fun _ => hv) ht ht8 hp8 (fun e => absurd e (by decide)) (fun _ => ⟨by rw [yv, z], by rw [yv, if_pos z]⟩) (fun _ => h f) (fun e => absurd rfl e) (fun e => absurd rfl e)
  · rw [if_neg z] at h
    exact r_T_step (p' := p + 1) (val := sdF (gF (S.2 2) t p)) hq hi hl hc rfl (Nat.le_of_lt hv) (fun _ => hv) ht ht8 hp8 (fun e => absurd e (by decide)) (fun _ => ⟨yv.symm, by rw [yv, if_neg z]⟩) (fun e => absurd e z) (fun _ e => absurd e (by decide)) (fun _ _ => next (sd_lt z) h)
set_option maxRecDepth 20000 in
theorem r_T_fin {p' : Nat} {a b c : Int32} (hq : q < 5) (hi : i = z_len.getD q 0) (hl : z_len.getD q 0 ≤ 5) (h : tP Z S ve (.inr (p', a, b, c))) (hf : tdR ve f a b c) : lpT d Z q v i (tS S (nI p') ve f) := r_T_end hq hi hl (h f hf)
set_option maxRecDepth 20000 in
theorem s_T_readStatement (ht : S.1 34 = nI t) (ht8 : t ≤ 80) (hp : S.1 35 = nI p) (hp8 : p ≤ t) (hz : tP Z S (gF (S.2 2) t p) (rsF (gF (S.2 2) t) p)) : z_EvM (d + 10) 73 54 [z_p 1] (z_H S) Z := by
  generalize hve : gF (S.2 2) t p = ve at hz
  have head : ∀ q, q = fmN ve → ¬ q = 4 → q < 5 → p + 1 ≤ t → lpT d Z q 0 0 (tS S (nI (p + 1)) ve (S.2 3)) → z_Run (d + 10) 73 (z_own 6) z_m54.2.1 z_m54.2.2.1 none (fun v h' => z_nar z_m54.2.2.2.1 v ∧ Z v h') 15 [(0, z_p 1)] [.inr (some (1000000 + fmN ve))] (z_H (tS S (nI p) ve (S.2 3))) := by
    intro q hq h4 hq5 hpt h
    subst hq
    have hqq : 1000000 ≤ 1000000 + fmN ve ∧ 1000000 + fmN ve < 1000005 := ⟨by omega, by omega⟩
    unfold lpT at h
    rw [nI_succ, ← tS_pl (pl := nI p)] at h
    refine z_Run_of z_tk54 [(39, [0, 1, 2, 3])] 60 (fun C K R hC hK hR => ?_)
    refine And.intro hqq ?_
    conv => whnf
    refine hC _ _ _ _ (s_S_isEmpty (h := z_H (tS S (nI p) ve (S.2 3))) hq5 (fun r hr => ?_))
    refine And.intro (fun _ => ?_) (fun e => absurd (zb_t hr e) h4)
    exact hK _ _ _ _ h
  have main : z_Run (d + 10) 73 (z_own 6) z_m54.2.1 z_m54.2.2.1 none (fun v h' => z_nar z_m54.2.2.2.1 v ∧ Z v h') 15 [(0, z_p 1)] [.inr (some (1000000 + fmN ve))] (z_H (tS S (nI p) ve (S.2 3))) := by
    unfold rsF at hz
    rw [hve] at hz
    have hne : ∀ c, ve = c → ¬ c = -1 → p + 1 ≤ t := fun c h1 h2 => g_lt (fun w => h2 (h1.symm.trans (hve.symm.trans w)))
    by_cases h98 : ve = 98
    · rw [if_pos h98] at hz
      have hpt := hne 98 h98 (by decide)
      refine head 0 (by rw [h98]; rfl) (by omega) (by omega) hpt ?_
      refine r_T_D (by omega) (by decide) (by decide) rfl (by omega) ht ht8 hpt hz (fun a1 z => ?_)
      refine r_T_C (Or.inl rfl) (by omega) (by decide) (by decide) rfl (by omega) ht ht8 a1 z (fun a2 z => ?_)
      refine r_T_N (by omega) (by decide) (by decide) rfl (by omega) ht ht8 a2 z (fun a3 z => ?_)
      refine r_T_C (Or.inr rfl) (by omega) (by decide) (by decide) rfl (by omega) ht ht8 a3 z (fun a4 z => ?_)
      refine r_T_fin (by omega) (by decide) (by decide) (by exact z) ⟨?_, fun _ => ?_, fun h => absurd h (by rw [h98]; decide)⟩
      · rw [pk_un (by omega), pk_us]
      · rw [pk_us]
    · rw [if_neg h98] at hz
      by_cases h99 : ve = 99
      · rw [if_pos h99] at hz
        have hpt := hne 99 h99 (by decide)
        refine head 2 (by rw [h99]; rfl) (by omega) (by omega) hpt ?_
        refine r_T_K (by omega) (by decide) (by decide) rfl (by omega) ht ht8 hpt hz (fun a1 z => ?_)
        refine r_T_N (by omega) (by decide) (by decide) rfl (by omega) ht ht8 a1 z (fun a2 z => ?_)
        refine r_T_C (Or.inl rfl) (by omega) (by decide) (by decide) rfl (by omega) ht ht8 a2 z (fun a3 z => ?_)
        refine r_T_D (by omega) (by decide) (by decide) rfl (by omega) ht ht8 a3 z (fun a4 z => ?_)
        refine r_T_C (Or.inr rfl) (by omega) (by decide) (by decide) rfl (by omega) ht ht8 a4 z (fun a5 z => ?_)
        refine r_T_fin (by omega) (by decide) (by decide) (by exact z) ⟨?_, fun _ => ?_, fun _ => ?_⟩
        · rw [pk_un (by omega), pk_un (by omega), pk_us]
        · rw [pk_un (by omega), pk_us]
        · rw [pk_us]
      · rw [if_neg h99] at hz
        by_cases h115 : ve = 115
        · rw [if_pos h115] at hz
          have hpt := hne 115 h115 (by decide)
          refine head 3 (by rw [h115]; rfl) (by omega) (by omega) hpt ?_
          refine r_T_D (by omega) (by decide) (by decide) rfl (by omega) ht ht8 hpt hz (fun a1 z => ?_)
          refine r_T_S (by omega) (by decide) (by decide) rfl (by omega) ht ht8 a1 z (fun a2 z => ?_)
          refine r_T_D (by omega) (by decide) (by decide) rfl (by omega) ht ht8 a2 z (fun a3 z => ?_)
          refine r_T_C (Or.inr rfl) (by omega) (by decide) (by decide) rfl (by omega) ht ht8 a3 z (fun a4 z => ?_)
          refine r_T_fin (by omega) (by decide) (by decide) (by exact z) ⟨?_, fun _ => ?_, fun _ => ?_⟩
          · rw [pk_un (by omega), pk_un (by omega), pk_us]
          · rw [pk_un (by omega), pk_us]
          · rw [pk_us]
        · rw [if_neg h115] at hz
          by_cases h116 : ve = 116 ∨ ve = 111
          · rw [if_pos h116] at hz
            have hpt : p + 1 ≤ t := by
              rcases h116 with w | w
              · exact hne 116 w (by decide)
              · exact hne 111 w (by decide)
            refine head 1 (by rcases h116 with w | w <;> rw [w] <;> rfl) (by omega) (by omega) hpt ?_
            refine r_T_D (by omega) (by decide) (by decide) rfl (by omega) ht ht8 hpt hz (fun a1 z => ?_)
            refine r_T_C (Or.inr rfl) (by omega) (by decide) (by decide) rfl (by omega) ht ht8 a1 z (fun a2 z => ?_)
            refine r_T_fin (by omega) (by decide) (by decide) (by exact z) ⟨?_, fun h => ?_, fun h => ?_⟩
            · rw [pk_us]
            · exact absurd h (fun w => w.elim h98 (fun w => w.elim h99 h115))
            · exact absurd h (fun w => w.elim h99 h115)
          · rw [if_neg h116] at hz
            have hq4 : fmN ve = 4 := by
              unfold fmN
              rw [if_neg h98, if_neg h99, if_neg (fun w => h116 (Or.inr w)), if_neg h115, if_neg (fun w => h116 (Or.inl w))]
            refine z_Run_of z_tk54 [] 60 (fun C K R hC hK hR => ?_)
            refine And.intro ⟨by omega, by omega⟩ ?_
            conv => whnf
            refine hC _ _ _ _ (s_S_isEmpty (h := z_H (tS S (nI p) ve (S.2 3))) (q := fmN ve) (by omega) (fun r hr => ?_))
            refine And.intro (fun e => absurd hq4 (zb_f hr e)) (fun _ => ?_)
            exact hR _ _ ⟨⟨_, rfl, rfl⟩, hz (S.2 3)⟩
  refine z_go (c := 6) (t := z_t54) rfl rfl rfl z_tk54 [(15, [0])] 60 (fun C K R hC hK hR => ?_)
  conv => whnf
  refine hC _ _ _ _ (s_T_here (S := S) (p := p) ht ht8 hp (by omega) ?_)
  conv => whnf
  refine hC _ _ _ _ (s_T_formOf (h := z_H (z_u S 36 (gF (S.2 2) t p))) ?_)
  rw [← hp, ← hve] at main
  exact hK _ _ _ _ main
end
