/-! placings: the reference, from seat to seat -/
section
variable {d n c : Nat} {S : z_S} {Z : z_Zt} {sum lv le x : Int32} {fl fb tr at' : Nat → Int32}
set_option maxRecDepth 20000 in
theorem l_M_plFree (hc : c ≤ 5) (hat : ∀ k, k < c → tr k = at' k) (next : ∀ fr : Int32, z_b fr (¬ x = 0 ∧ ¬ usedF c at' x = true) → z_Run (d + 1) 73 (z_own 8) z_m145.2.1 z_m145.2.2.1 none (fun v h' => z_nar z_m145.2.2.2.1 v ∧ Z v h') 182 [(0, z_p 59), (1, .inl (nI c)), (2, .inl sum), (3, .inl x), (4, .inl fr)] [] (z_H (mS S lv le fl fb tr))) : ∀ m k fr, k + m = c → z_b fr (¬ x = 0 ∧ ∀ i, i < k → ¬ at' i = x) → z_Run (d + 1) 73 (z_own 8) z_m145.2.1 z_m145.2.2.1 none (fun v h' => z_nar z_m145.2.2.2.1 v ∧ Z v h') 147 [(0, z_p 59), (1, .inl (nI c)), (2, .inl sum), (3, .inl x), (4, .inl fr), (5, .inl (nI k))] [] (z_H (mS S lv le fl fb tr)) := by
  intro m
  induction m with
  | zero =>
    intro k fr hk hfr
    have hk : k = c := by omega
    subst hk
    refine z_Run_of z_tk145 [(182, [0, 1, 2, 3, 4])] 60 (fun C K R hC hK hR => ?_)
    refine And.intro (fun q => ?_) (fun q => absurd (nI_le (Nat.le_refl k) (by omega)) q)
    refine hK _ _ _ _ (next fr (zb_iff hfr ?_))
    rw [used_iff]
    constructor
    · exact fun z => ⟨z.1, fun ⟨i, hi, e⟩ => z.2 i hi e⟩
    · exact fun z => ⟨z.1, fun i hi e => z.2 ⟨i, hi, e⟩⟩
  | succ m ih =>
    intro k fr hk hfr
    have hcl : (nI k).toNatClampNeg = k := nI_clamp (by omega)
    have hin : vp_in (nI k) 5 := vp_in_nI (by omega) (by omega)
    have no : ¬ (¬ x = 0 ∧ ∀ i, i < k + 1 → ¬ at' i = x) → z_Run (d + 1) 73 (z_own 8) z_m145.2.1 z_m145.2.2.1 none (fun v h' => z_nar z_m145.2.2.2.1 v ∧ Z v h') 147 [(0, z_p 59), (1, .inl (nI c)), (2, .inl sum), (3, .inl x), (4, .inl 0), (5, .inl (nI k + 1))] [] (z_H (mS S lv le fl fb tr)) := by
      intro h
      have := ih (k + 1) 0 (by omega) (Or.inr ⟨rfl, h⟩)
      rw [nI_succ] at this
      exact this
    refine z_Run_of z_tk145 [(147, [0, 1, 2, 3, 4, 5])] 60 (fun C K R hC hK hR => ?_)
    refine And.intro (fun q => absurd q (nI_ge (by omega) (by omega))) (fun q => ?_)
    refine And.intro (fun e => ?_) (fun e => ?_)
    · exact hK _ _ _ _ (no (fun z => zb_f hfr e ⟨z.1, fun i hi => z.2 i (by omega)⟩))
    · refine And.intro hin ?_
      refine And.intro (fun e2 => ?_) (fun e2 => ?_)
      · have e2 : tr (nI k).toNatClampNeg = x := e2
        rw [hcl, hat k (by omega)] at e2
        exact hK _ _ _ _ (no (fun z => z.2 k (by omega) e2))
      · have e2 : ¬ tr (nI k).toNatClampNeg = x := e2
        rw [hcl, hat k (by omega)] at e2
        have z := zb_t hfr e
        have := ih (k + 1) 1 (by omega) (Or.inl ⟨rfl, z.1, fun i hi => by
          by_cases q : i = k
          · subst q; exact e2
          · exact z.2 i (by omega)⟩)
        rw [nI_succ] at this
        exact hK _ _ _ _ this
set_option maxRecDepth 20000 in
theorem r_M_plStep {e L : Nat} {D : z_S} {x' : Int32} (hD : z_Rl (S.2 61) D) (hL : D.1 0 = nI L) (hc : c < 5) (hxL : ¬ nI L < x) (hcn : ¬ nI c = S.2 61 3) (hat : ∀ k, k < c → tr k = at' k) (hx' : x + 1 = x')
    (h1 : (x = 0 ∨ usedF c at' x = true) → z_Run (e + 3) 73 (z_own 8) z_m145.2.1 z_m145.2.2.1 none (fun v h' => z_nar z_m145.2.2.2.1 v ∧ Z v h') 123 [(0, z_p 59), (1, .inl (nI c)), (2, .inl sum), (3, .inl x')] [] (z_H (mS S lv le fl fb tr)))
    (h2 : ¬ x = 0 → ¬ usedF c at' x = true → ∀ Z' : z_Zt, (∀ lv' le' fl' fb' tr', z_Run (e + 3) 73 (z_own 8) z_m145.2.1 z_m145.2.2.1 none (fun v h' => z_nar z_m145.2.2.2.1 v ∧ Z v h') 123 [(0, z_p 59), (1, .inl (nI c)), (2, .inl sum), (3, .inl x')] [] (z_H (mS S lv' le' fl' fb' tr')) → Z' none (z_H (mS S lv' le' fl' fb' tr'))) → z_EvM (e + 2) 73 145 [z_p 59, .inl (nI c + 1), .inl (sum + turnF (D.2 0 c) (D.2 1 c) (armF (D.1 2) x))] (z_H (mS S lv le fl fb (upd tr c x))) Z') : z_Run (e + 3) 73 (z_own 8) z_m145.2.1 z_m145.2.2.1 none (fun v h' => z_nar z_m145.2.2.2.1 v ∧ Z v h') 123 [(0, z_p 59), (1, .inl (nI c)), (2, .inl sum), (3, .inl x)] [] (z_H (mS S lv le fl fb tr)) := by
  subst hx'
  have hs0 : S.2 61 0 = nI L := (hD.1 0 (by omega)).trans hL
  have hcc : (nI c).toNatClampNeg = c := nI_clamp (by omega)
  have hic : vp_in (nI c) 5 := vp_in_nI hc (by omega)
  have n182 : ∀ fr : Int32, z_b fr (¬ x = 0 ∧ ¬ usedF c at' x = true) → z_Run (e + 3) 73 (z_own 8) z_m145.2.1 z_m145.2.2.1 none (fun v h' => z_nar z_m145.2.2.2.1 v ∧ Z v h') 182 [(0, z_p 59), (1, .inl (nI c)), (2, .inl sum), (3, .inl x), (4, .inl fr)] [] (z_H (mS S lv le fl fb tr)) := by
    intro fr hfr
    refine z_Run_of z_tk145 [(123, [0, 1, 2, 3])] 60 (fun C K R hC hK hR => ?_)
    refine And.intro (fun q => ?_) (fun q => ?_)
    · have z := zb_t hfr q
      refine And.intro hic ?_
      conv => whnf
      refine hC _ _ _ _ (s_M_turnN (S := mS S lv le fl fb (upd tr (nI c).toNatClampNeg x)) (D := D) hD hc (fun r hr => ?_))
      subst hr
      rw [hcc]
      conv => whnf
      refine hC _ _ _ _ (h2 z.1 z.2 _ (fun lv' le' fl' fb' tr' hrun => ?_))
      exact hK _ _ _ _ hrun
    · have z := zb_f hfr q
      refine hK _ _ _ _ (h1 ?_)
      by_cases q0 : x = 0
      · exact Or.inl q0
      · refine Or.inr ?_
        cases h9 : usedF c at' x
        · exact absurd ⟨q0, by rw [h9]; exact Bool.false_ne_true⟩ z
        · rfl
  refine z_Run_of z_tk145 [(147, [0, 1, 2, 3, 4, 5])] 60 (fun C K R hC hK hR => ?_)
  refine And.intro (vp_in_iff.mpr (by decide)) ?_
  refine And.intro (fun q => absurd (show S.2 61 0 < x from q) (by rw [hs0]; exact hxL)) (fun q => ?_)
  refine And.intro (fun q => ?_) (fun q => ?_)
  · exact hK _ _ _ _ (l_M_plFree (d := e + 2) (by omega) hat n182 c 0 0 (by omega) (Or.inr ⟨rfl, fun z => z.1 q⟩))
  · exact hK _ _ _ _ (l_M_plFree (d := e + 2) (by omega) hat n182 c 0 1 (by omega) (Or.inl ⟨rfl, q, fun i hi => by omega⟩))
end
def tuD (D : z_S) (c : Nat) (x : Int32) : Int32 := turnF (D.2 0 c) (D.2 1 c) (armF (D.1 2) x)
def M_sp (S D : z_S) (L n e m c : Nat) : Prop := ∀ (B : Nat) (at' : Nat → Int32) (sum : Int32) (a : z_Pa) (lv le : Int32) (fl fb tr : Nat → Int32) (Z : z_Zt), (∀ k, k < c → tr k = at' k) → aR n a lv le fb → lJ n B a fl → okA a → sB c sum → B + 12 ^ m < 2 ^ 31 → (∀ lv' le' fl' fb' tr', aR n (plF L (tuD D) m c at' sum a) lv' le' fb' → lJ n (B + 12 ^ m) (plF L (tuD D) m c at' sum a) fl' → okA (plF L (tuD D) m c at' sum a) → (∀ k, k < c → tr' k = at' k) → Z none (z_H (mS S lv' le' fl' fb' tr'))) → z_EvM e 73 145 [z_p 59, .inl (nI c), .inl sum] (z_H (mS S lv le fl fb tr)) Z
theorem lJ_mono {n B B' : Nat} {a : z_Pa} {fl : Nat → Int32} (h : lJ n B a fl) (hb : B ≤ B') : lJ n B' a fl := by
  rcases h with h | ⟨k, k1, k2, k3⟩
  · exact Or.inl h
  · exact Or.inr ⟨k, k1, by omega, k3⟩
section
variable {S D : z_S} {L n e m c : Nat} {Z : z_Zt} {at' : Nat → Int32} {sum : Int32}
set_option maxRecDepth 20000 in
theorem l_M_places2 (hD : z_Rl (S.2 61) D) (hcn : D.1 3 = nI n) (hn : n ≤ 5) (hL : D.1 0 = nI L) (hL6 : L ≤ 6) (hv : 0 ≤ D.1 2 ∧ D.1 2 ≤ 4) (hwe : ∀ k, k < n → 1 ≤ D.2 1 k ∧ D.2 1 k ≤ 60) (hcm : c + (m + 1) = n) (hs : sB c sum) (rc : M_sp S D L n (e + 2) m (c + 1)) {Bf : Nat} (hBf : Bf < 2 ^ 31) : ∀ r p B (a : z_Pa) lv le (fl fb tr : Nat → Int32), p + r = 2 * L + 1 → L < p → B + r * 12 ^ m ≤ Bf → aR n a lv le fb → lJ n B a fl → okA a → (∀ k, k < c → tr k = at' k) → (∀ lv' le' fl' fb' tr', aR n (itF (plG L (tuD D) m c at' sum) r (p - 1) a) lv' le' fb' → lJ n Bf (itF (plG L (tuD D) m c at' sum) r (p - 1) a) fl' → okA (itF (plG L (tuD D) m c at' sum) r (p - 1) a) → (∀ k, k < c → tr' k = at' k) → Z none (z_H (mS S lv' le' fl' fb' tr'))) → z_Run (e + 3) 73 (z_own 8) z_m145.2.1 z_m145.2.2.1 none (fun v h' => z_nar z_m145.2.2.2.1 v ∧ Z v h') 123 [(0, z_p 59), (1, .inl (nI c)), (2, .inl sum), (3, .inl (nI p - nI L))] [] (z_H (mS S lv le fl fb tr)) := by
  have hs0 : S.2 61 0 = nI L := (hD.1 0 (by omega)).trans hL
  have hs3 : S.2 61 3 = nI n := (hD.1 3 (by omega)).trans hcn
  intro r
  induction r with
  | zero =>
    intro p B a lv le fl fb tr hp hlp hB ha hl ho hat hz
    refine z_Run_of z_tk145 [] 60 (fun C K R hC hK hR => ?_)
    refine And.intro (vp_in_iff.mpr (by decide)) ?_
    refine And.intro (fun q => ?_) (fun q => absurd (show S.2 61 0 < nI p - nI L by rw [hs0]; exact (sv hL6 (by omega)).1.mpr (by omega)) q)
    exact hR _ _ ⟨rfl, hz lv le fl fb tr ha (lJ_mono hl (by omega)) ho hat⟩
  | succ r ih =>
    intro p B a lv le fl fb tr hp hlp hB ha hl ho hat hz
    have ex := sv_gt hlp
    have six := sv_in (s := p - 1) hL6 (by omega)
    have enx : nI p - nI L + 1 = nI (p + 1) - nI L := by rw [nI_succ]; grind
    have e1 : p + 1 - 1 = (p - 1) + 1 := by omega
    have hno : ¬ nI L < nI p - nI L := fun z => by have := (sv hL6 (by omega)).1.mp z; omega
    have hmul : (r + 1) * 12 ^ m = r * 12 ^ m + 12 ^ m := Nat.succ_mul _ _
    have x0 : ¬ nI p - nI L = 0 := by rw [ex]; exact six.2.2
    refine r_M_plStep hD hL (by omega) hno (by rw [hs3]; exact fun z => by have := (nI_eq (by omega) (by omega)).mp z; omega) hat enx (fun h => ?_) (fun h0 hu Z' hZ' => ?_)
    · have hu := h.resolve_left x0
      rw [ex] at hu
      refine ih (p + 1) B a lv le fl fb tr (by omega) (by omega) (Nat.le_trans (Nat.add_le_add_left (Nat.mul_le_mul_right _ (Nat.le_succ r)) B) hB) ha hl ho hat (fun lv' le' fl' fb' tr' g1 g2 g3 g4 => ?_)
      rw [e1] at g1 g2 g3
      refine hz lv' le' fl' fb' tr' ?_ ?_ ?_ g4
      · rw [itF_S, plG, if_pos hu]; exact g1
      · rw [itF_S, plG, if_pos hu]; exact g2
      · rw [itF_S, plG, if_pos hu]; exact g3
    · rw [ex] at hu ⊢
      have hw := hwe c (by omega)
      have ar := arm_in hv.1 hv.2 six.1 six.2.1
      have tb := tn_bd (kd := D.2 0 c) hw.1 hw.2 ar.1 ar.2
      rw [← nI_succ]
      refine rc B (upd at' c (seatF L (p - 1))) (sum + tuD D c (seatF L (p - 1))) a lv le fl fb (upd tr c (seatF L (p - 1))) Z' (fun k hk => ?_) ha hl ho (sB_st hs (by omega) tb.1 tb.2) (by omega) (fun lv' le' fl' fb' tr' g1 g2 g3 g4 => ?_)
      · by_cases q : k = c
        · subst q; rw [pk_us, pk_us]
        · rw [pk_un q, pk_un q]; exact hat k (by omega)
      · refine hZ' lv' le' fl' fb' tr' ?_
        refine ih (p + 1) (B + 12 ^ m) _ lv' le' fl' fb' tr' (by omega) (by omega) (by omega) g1 g2 g3 (fun k hk => by rw [g4 k (by omega), pk_un (by omega)]) (fun lv2 le2 fl2 fb2 tr2 k1 k2 k3 k4 => ?_)
        rw [e1] at k1 k2 k3
        refine hz lv2 le2 fl2 fb2 tr2 ?_ ?_ ?_ k4
        · rw [itF_S, plG, if_neg hu]; exact k1
        · rw [itF_S, plG, if_neg hu]; exact k2
        · rw [itF_S, plG, if_neg hu]; exact k3
set_option maxRecDepth 20000 in
theorem l_M_places1 (hD : z_Rl (S.2 61) D) (hcn : D.1 3 = nI n) (hn : n ≤ 5) (hL : D.1 0 = nI L) (hL6 : L ≤ 6) (hv : 0 ≤ D.1 2 ∧ D.1 2 ≤ 4) (hwe : ∀ k, k < n → 1 ≤ D.2 1 k ∧ D.2 1 k ≤ 60) (hcm : c + (m + 1) = n) (hs : sB c sum) (rc : M_sp S D L n (e + 2) m (c + 1)) {Bf : Nat} (hBf : Bf < 2 ^ 31) : ∀ r p B (a : z_Pa) lv le (fl fb tr : Nat → Int32), p + r = L → B + (r + L) * 12 ^ m ≤ Bf → aR n a lv le fb → lJ n B a fl → okA a → (∀ k, k < c → tr k = at' k) → (∀ lv' le' fl' fb' tr', aR n (itF (plG L (tuD D) m c at' sum) (r + L) p a) lv' le' fb' → lJ n Bf (itF (plG L (tuD D) m c at' sum) (r + L) p a) fl' → okA (itF (plG L (tuD D) m c at' sum) (r + L) p a) → (∀ k, k < c → tr' k = at' k) → Z none (z_H (mS S lv' le' fl' fb' tr'))) → z_Run (e + 3) 73 (z_own 8) z_m145.2.1 z_m145.2.2.1 none (fun v h' => z_nar z_m145.2.2.2.1 v ∧ Z v h') 123 [(0, z_p 59), (1, .inl (nI c)), (2, .inl sum), (3, .inl (nI p - nI L))] [] (z_H (mS S lv le fl fb tr)) := by
  have hs3 : S.2 61 3 = nI n := (hD.1 3 (by omega)).trans hcn
  intro r
  induction r with
  | zero =>
    intro p B a lv le fl fb tr hp hB ha hl ho hat hz
    have hp : p = L := by omega
    subst hp
    have enx : nI p - nI p + 1 = nI (p + 1) - nI p := by rw [nI_succ]; grind
    have e0 : nI p - nI p = 0 := by grind
    have hno : ¬ nI p < nI p - nI p := fun z => by have := (sv hL6 (by omega)).1.mp z; omega
    rw [Nat.zero_add] at hz hB
    refine r_M_plStep hD hL (by omega) hno (by rw [hs3]; exact fun z => by have := (nI_eq (by omega) (by omega)).mp z; omega) hat enx (fun h => ?_) (fun h0 => absurd e0 h0)
    exact l_M_places2 hD hcn hn hL hL6 hv hwe hcm hs rc hBf p (p + 1) B a lv le fl fb tr (by omega) (by omega) hB ha hl ho hat hz
  | succ r ih =>
    intro p B a lv le fl fb tr hp hB ha hl ho hat hz
    have ex := sv_lt (L := L) (p := p) (by omega)
    have six := sv_in (s := p) hL6 (by omega)
    have enx : nI p - nI L + 1 = nI (p + 1) - nI L := by rw [nI_succ]; grind
    have hno : ¬ nI L < nI p - nI L := fun z => by have := (sv hL6 (by omega)).1.mp z; omega
    have hmul : (r + 1 + L) * 12 ^ m = (r + L) * 12 ^ m + 12 ^ m := by rw [Nat.add_right_comm, Nat.succ_mul]
    have x0 : ¬ nI p - nI L = 0 := by rw [ex]; exact six.2.2
    have er : r + 1 + L = (r + L) + 1 := by omega
    rw [er] at hz
    refine r_M_plStep hD hL (by omega) hno (by rw [hs3]; exact fun z => by have := (nI_eq (by omega) (by omega)).mp z; omega) hat enx (fun h => ?_) (fun h0 hu Z' hZ' => ?_)
    · have hu := h.resolve_left x0
      rw [ex] at hu
      refine ih (p + 1) B a lv le fl fb tr (by omega) (Nat.le_trans (Nat.add_le_add_left (Nat.mul_le_mul_right _ (by omega)) B) hB) ha hl ho hat (fun lv' le' fl' fb' tr' g1 g2 g3 g4 => ?_)
      refine hz lv' le' fl' fb' tr' ?_ ?_ ?_ g4
      · rw [itF_S, plG, if_pos hu]; exact g1
      · rw [itF_S, plG, if_pos hu]; exact g2
      · rw [itF_S, plG, if_pos hu]; exact g3
    · rw [ex] at hu ⊢
      have hw := hwe c (by omega)
      have ar := arm_in hv.1 hv.2 six.1 six.2.1
      have tb := tn_bd (kd := D.2 0 c) hw.1 hw.2 ar.1 ar.2
      rw [← nI_succ]
      refine rc B (upd at' c (seatF L p)) (sum + tuD D c (seatF L p)) a lv le fl fb (upd tr c (seatF L p)) Z' (fun k hk => ?_) ha hl ho (sB_st hs (by omega) tb.1 tb.2) (by omega) (fun lv' le' fl' fb' tr' g1 g2 g3 g4 => ?_)
      · by_cases q : k = c
        · subst q; rw [pk_us, pk_us]
        · rw [pk_un q, pk_un q]; exact hat k (by omega)
      · refine hZ' lv' le' fl' fb' tr' ?_
        refine ih (p + 1) (B + 12 ^ m) _ lv' le' fl' fb' tr' (by omega) (by omega) g1 g2 g3 (fun k hk => by rw [g4 k (by omega), pk_un (by omega)]) (fun lv2 le2 fl2 fb2 tr2 k1 k2 k3 k4 => ?_)
        refine hz lv2 le2 fl2 fb2 tr2 ?_ ?_ ?_ k4
        · rw [itF_S, plG, if_neg hu]; exact k1
        · rw [itF_S, plG, if_neg hu]; exact k2
        · rw [itF_S, plG, if_neg hu]; exact k3
set_option maxRecDepth 20000 in
theorem s_M_places (hD : z_Rl (S.2 61) D) (hcn : D.1 3 = nI n) (hn : n ≤ 5) (hL : D.1 0 = nI L) (hL6 : L ≤ 6) (hv : 0 ≤ D.1 2 ∧ D.1 2 ≤ 4) (hwe : ∀ k, k < n → 1 ≤ D.2 1 k ∧ D.2 1 k ≤ 60) : ∀ m c e, c + m = n → m + 3 ≤ e → M_sp S D L n e m c := by
  have hs0 : S.2 61 0 = nI L := (hD.1 0 (by omega)).trans hL
  have hs3 : S.2 61 3 = nI n := (hD.1 3 (by omega)).trans hcn
  intro m
  induction m with
  | zero =>
    intro c e hc he B at' sum a lv le fl fb tr Z hat ha hl ho hs hB hz
    obtain ⟨d, rfl⟩ : ∃ d, e = d + 2 := ⟨e - 2, by omega⟩
    have hc : c = n := by omega
    subst hc
    exact s_M_plLeaf hD hcn hn hat ha hl ho hs (by simpa using hB) (fun lv' le' fl' fb' g1 g2 g3 => hz lv' le' fl' fb' tr g1 (by rw [plF_0]; simpa using g2) g3 hat)
  | succ m ih =>
    intro c e hc he B at' sum a lv le fl fb tr Z hat ha hl ho hs hB hz
    obtain ⟨d, rfl⟩ : ∃ d, e = d + 3 := ⟨e - 3, by omega⟩
    have rc := ih (c + 1) (d + 2) (by omega) (by omega)
    have hp12 : 12 ^ (m + 1) = 12 * 12 ^ m := by rw [Nat.pow_succ, Nat.mul_comm]
    have hle : (L + L) * 12 ^ m ≤ 12 * 12 ^ m := Nat.mul_le_mul_right _ (by omega)
    refine z_go (c := 8) (t := z_t145) rfl rfl rfl z_tk145 [(123, [0, 1, 2, 3])] 60 (fun C K R hC hK hR => ?_)
    refine And.intro (vp_in_iff.mpr (by decide)) ?_
    refine And.intro (fun q => ?_) (fun q => ?_)
    · refine And.intro (vp_in_iff.mpr (by decide)) ?_
      have := l_M_places1 (e := d) (Z := Z) (at' := at') (sum := sum) hD hcn hn hL hL6 hv hwe hc hs rc hB L 0 B a lv le fl fb tr (by omega) (by omega) ha hl ho hat (fun lv' le' fl' fb' tr' g1 g2 g3 g4 => by
        rw [← Nat.two_mul] at g1 g2 g3
        exact hz lv' le' fl' fb' tr' (by rw [plF_S]; exact g1) (by rw [plF_S]; exact g2) (by rw [plF_S]; exact g3) g4)
      have e0 : nI 0 - nI L = -S.2 61 0 := by rw [hs0, nI_0]; grind
      rw [e0] at this
      exact hK _ _ _ _ this
    · have q : nI c = S.2 61 3 := q
      rw [hs3] at q
      have := (nI_eq (by omega) (by omega)).mp q
      omega
end
