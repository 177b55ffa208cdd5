/-! orders: the reference's going through -/
def moS (S : z_S) (q lb : Int32) (fo tr : Nat → Int32) : z_S := z_w (z_w (z_u (z_u S 44 q) 45 lb) 69 fo) 66 tr
def mR (M B : Nat) (a : z_Oa) (q lb : Int32) (fo : Nat → Int32) : Prop := q = nI a.1 ∧ a.1 ≤ B ∧ lb = a.2.1 ∧ (a.2.1 = -9 ∨ ¬ a.2.1 < 0) ∧ (a.1 = 0 ∨ ∀ i, i < M → fo i = a.2.2 i)
theorem mR_mono {M B B' : Nat} {a : z_Oa} {q lb : Int32} {fo : Nat → Int32} (h : mR M B a q lb fo) (hb : B ≤ B') : mR M B' a q lb fo := ⟨h.1, by have := h.2.1; omega, h.2.2⟩
def tuR (D : z_S) (c : Nat) : Int32 := turnF (D.2 0 c) (D.2 1 c) (armF (D.1 2) (D.2 3 c))
theorem bi_tst1 {t s : Nat} (ht : t < 2 ^ 31) (hs : s < 31) : ((nI t >>> (nI s &&& 31)) &&& 1 = 1) ↔ t.testBit s = true := by
  rw [pk_shrN ht _ s (bi_sh ⟨s, by omega⟩), pk_andN (by have := Nat.div_le_self t (2 ^ s); omega) 1 (by decide), Nat.testBit_eq_decide_div_mod_eq]
  have h2 : t / 2 ^ s % 2 ^ 1 < 2 := Nat.mod_lt _ (by omega)
  constructor
  · intro h
    have := (nI_eq (b := 1) (by omega) (by omega)).mp h
    rw [decide_eq_true_iff]
    omega
  · intro h
    rw [decide_eq_true_iff] at h
    have e : t / 2 ^ s % 2 ^ 1 = 1 := by omega
    rw [e]
    rfl
section
variable {d n M : Nat} {S D : z_S} {Z : z_Zt} {q lb : Int32} {tr : Nat → Int32}
set_option maxRecDepth 20000 in
theorem l_M_orFirst (hM : M ≤ 5) (hq : q = 0) (next : ∀ fo', (∀ i, i < M → fo' i = tr i) → z_Run (d + 1) 73 (z_own 8) z_m153.2.1 z_m153.2.2.1 none (fun v h' => z_nar z_m153.2.2.2.1 v ∧ Z v h') 74 [(0, z_p 59)] [] (z_H (moS S q lb fo' tr))) : ∀ m k fo, k + m = M → (∀ i, i < k → fo i = tr i) → z_Run (d + 1) 73 (z_own 8) z_m153.2.1 z_m153.2.2.1 none (fun v h' => z_nar z_m153.2.2.2.1 v ∧ Z v h') 41 [(0, z_p 59), (1, .inl (nI M)), (6, .inl (nI k))] [] (z_H (moS S q lb fo tr)) := by
  intro m
  induction m with
  | zero =>
    intro k fo hk hf
    have hk : k = M := by omega
    subst hk
    refine z_Run_of z_tk153 [(74, [0])] 60 (fun C K R hC hK hR => ?_)
    refine And.intro (fun _ => hK _ _ _ _ (next fo hf)) (fun qq => absurd (nI_le (Nat.le_refl k) (by omega)) qq)
  | succ m ih =>
    intro k fo hk hf
    have hcl : (nI k).toNatClampNeg = k := nI_clamp (by omega)
    have hin : vp_in (nI k) 5 := vp_in_nI (by omega) (by omega)
    refine z_Run_of z_tk153 [(41, [0, 1, 6])] 60 (fun C K R hC hK hR => ?_)
    refine And.intro (fun qq => absurd qq (nI_ge (by omega) (by omega))) (fun _ => ?_)
    refine And.intro (fun qq => absurd hq qq) (fun _ => ?_)
    refine And.intro hin (And.intro hin ?_)
    have := ih (k + 1) (upd fo (nI k).toNatClampNeg (tr (nI k).toNatClampNeg)) (by omega) (fun i hi => by
      rw [hcl]
      by_cases e : i = k
      · subst e; exact pk_us
      · rw [pk_un e]; exact hf i (by omega))
    rw [nI_succ] at this
    exact hK _ _ _ _ this
theorem moS_q {S : z_S} {q lb x : Int32} {fo tr : Nat → Int32} : z_H (z_u (moS S q lb fo tr) 44 x) = z_H (moS S x lb fo tr) := rfl
set_option maxRecDepth 20000 in
theorem r_M_get74 {S : z_S} (hz : Z none (z_H (z_u S 44 (S.1 44 + 1)))) : z_Run (d + 1) 73 (z_own 8) z_m153.2.1 z_m153.2.2.1 none (fun v h' => z_nar z_m153.2.2.2.1 v ∧ Z v h') 74 [(0, z_p 59)] [] (z_H S) := by
  refine z_Run_of z_tk153 [] 60 (fun C K R hC hK hR => ?_)
  exact hR _ _ ⟨rfl, hz⟩
set_option maxRecDepth 20000 in
theorem s_M_orLeaf {B : Nat} {a : z_Oa} {at' fo : Nat → Int32} {seen sum bang worst : Int32} (hD : z_Rl (S.2 61) D) (hc : D.1 3 = nI n) (hn : n ≤ 5) (hM : M = cM (D.2 3) n) (hB : B + 1 < 2 ^ 31) (ha : mR M B a q lb fo) (hat : ∀ k, k < M → tr k = at' k) (hw : ¬ worst < 0) (hz : ∀ q' lb' fo', mR M (B + 1) (oL bang worst at' a) q' lb' fo' → Z none (z_H (moS S q' lb' fo' tr))) : z_EvM (d + 4) 73 153 [z_p 59, .inl (nI M), .inl seen, .inl sum, .inl bang, .inl worst] (z_H (moS S q lb fo tr)) Z := by
  have hMn := cM_le (D.2 3) n
  have hcnt : cntF (D.2 3) n = nI M := by rw [cM_cnt, hM]
  obtain ⟨a1, a2, a3, a4, a5⟩ := ha
  have l1 : ¬ (oL bang worst at' a).2.1 < 0 := by
    show ¬ (if a.2.1 = -9 ∨ worst < a.2.1 then worst else a.2.1) < 0
    by_cases z : a.2.1 = -9 ∨ worst < a.2.1
    · rw [if_pos z]; exact hw
    · rw [if_neg z]; exact a4.resolve_left (fun w => z (Or.inl w))
  have tail : ∀ lb2, lb2 = (oL bang worst at' a).2.1 → z_Run (d + 4) 73 (z_own 8) z_m153.2.1 z_m153.2.2.1 none (fun v h' => z_nar z_m153.2.2.2.1 v ∧ Z v h') 30 [(0, z_p 59), (1, .inl (nI M)), (4, .inl bang), (5, .inl worst)] [] (z_H (moS S q lb2 fo tr)) := by
    intro lb2 hlb2
    have last : ¬ bang < worst → ∀ fo', (a.1 = 0 → ∀ i, i < M → fo' i = at' i) → (¬ a.1 = 0 → fo' = fo) → z_Run (d + 4) 73 (z_own 8) z_m153.2.1 z_m153.2.2.1 none (fun v h' => z_nar z_m153.2.2.2.1 v ∧ Z v h') 74 [(0, z_p 59)] [] (z_H (moS S q lb2 fo' tr)) := by
      intro h1 fo' h2 h3
      refine r_M_get74 (d := d + 3) ?_
      show Z none (z_H (z_u (moS S q lb2 fo' tr) 44 (q + 1)))
      rw [moS_q]
      refine hz (q + 1) lb2 fo' ⟨?_, ?_, hlb2, Or.inr l1, Or.inr (fun i hi => ?_)⟩
      · show q + 1 = nI (if bang < worst then a.1 else a.1 + 1)
        rw [if_neg h1, a1, nI_succ]
      · show (if bang < worst then a.1 else a.1 + 1) ≤ B + 1
        rw [if_neg h1]; omega
      · show _ = (if bang < worst then a.2.2 else if a.1 = 0 then at' else a.2.2) i
        rw [if_neg h1]
        by_cases q0 : a.1 = 0
        · rw [if_pos q0]; exact h2 q0 i hi
        · rw [if_neg q0, h3 q0]; exact a5.resolve_left q0 i hi
    refine z_Run_of z_tk153 [(41, [0, 1, 6])] 60 (fun C K R hC hK hR => ?_)
    refine And.intro (fun e => ?_) (fun e => ?_)
    · have e1 : ¬ bang < worst := nlt_le e
      by_cases q0 : q = 0
      · have e3 : a.1 = 0 := by rw [a1] at q0; exact (nI_eq (b := 0) (by omega) (by omega)).mp q0
        refine hK _ _ _ _ (l_M_orFirst (d := d + 3) (by omega) q0 (fun fo' hf => last e1 fo' (fun _ i hi => by rw [hf i hi]; exact hat i hi) (fun z => absurd e3 z)) M 0 fo (by omega) (fun i hi => by omega))
      · have e3 : ¬ a.1 = 0 := fun z => q0 (by rw [a1, z]; rfl)
        refine hK _ _ _ _ ?_
        refine z_Run_of z_tk153 [(74, [0])] 60 (fun C K R hC hK hR => ?_)
        refine And.intro (fun _ => hK _ _ _ _ (last e1 fo (fun z => absurd z e3) (fun _ => rfl))) (fun _ => ?_)
        refine And.intro (fun _ => hK _ _ _ _ (last e1 fo (fun z => absurd z e3) (fun _ => rfl))) (fun qq => absurd (show q = 0 from qq) q0)
    · have e1 : bang < worst := lt_nge e
      refine hR _ _ ⟨rfl, hz q lb2 fo ⟨?_, ?_, hlb2, Or.inr l1, ?_⟩⟩
      · show q = nI (if bang < worst then a.1 else a.1 + 1)
        rw [if_pos e1]; exact a1
      · show (if bang < worst then a.1 else a.1 + 1) ≤ B + 1
        rw [if_pos e1]; omega
      · show (if bang < worst then a.1 else a.1 + 1) = 0 ∨ ∀ i, i < M → fo i = (if bang < worst then a.2.2 else if a.1 = 0 then at' else a.2.2) i
        rw [if_pos e1, if_pos e1]; exact a5
  have set : (a.2.1 = -9 ∨ worst < a.2.1) → z_Run (d + 4) 73 (z_own 8) z_m153.2.1 z_m153.2.2.1 none (fun v h' => z_nar z_m153.2.2.2.1 v ∧ Z v h') 24 [(0, z_p 59), (1, .inl (nI M)), (4, .inl bang), (5, .inl worst)] [] (z_H (moS S q lb fo tr)) := by
    intro h
    have := tail worst (show worst = (if a.2.1 = -9 ∨ worst < a.2.1 then worst else a.2.1) by rw [if_pos h])
    refine z_Run_of z_tk153 [(30, [0, 1, 4, 5])] 60 (fun C K R hC hK hR => ?_)
    exact hK _ _ _ _ this
  refine z_go (c := 8) (t := z_t153) rfl rfl rfl z_tk153 [(24, [0, 1, 4, 5]), (30, [0, 1, 4, 5])] 60 (fun C K R hC hK hR => ?_)
  conv => whnf
  refine hC _ _ _ _ (s_M_sitters (S := moS S q lb fo tr) hD hc hn ?_)
  refine And.intro (fun e => absurd (show nI M = cntF (D.2 3) n from hcnt.symm) e) (fun _ => ?_)
  refine And.intro (fun e => ?_) (fun e => And.intro (fun e2 => ?_) (fun e2 => ?_))
  · have e : lb < 0 := e
    rw [a3] at e
    exact hK _ _ _ _ (set (Or.inl (a4.resolve_right (fun z => z e))))
  · have e : ¬ lb < 0 := e
    have e2 : lb ≤ worst := e2
    rw [a3] at e e2
    exact hK _ _ _ _ (tail lb (show lb = (if a.2.1 = -9 ∨ worst < a.2.1 then worst else a.2.1) by
      rw [if_neg (fun z => by
        rcases z with z | z
        · rw [z] at e; exact e (by decide)
        · exact nlt_le e2 z)]
      exact a3))
  · have e2 : ¬ lb ≤ worst := e2
    rw [a3] at e2
    exact hK _ _ _ _ (set (Or.inr (lt_nge e2)))
end
def G_sp (S D : z_S) (n : Nat) (bang : Int32) (e m j : Nat) : Prop := ∀ (B t : Nat) (at' : Nat → Int32) (sum worst : Int32) (a : z_Oa) (q lb : Int32) (fo tr : Nat → Int32) (Z : z_Zt), mk2 nI n j t at' → (∀ k, k < j → tr k = at' k) → mR (cM (D.2 3) n) B a q lb fo → ¬ worst < 0 → B + 5 ^ m < 2 ^ 31 → (∀ q' lb' fo' tr', mR (cM (D.2 3) n) (B + 5 ^ m) (orF n (D.2 3) (tuR D) bang m j at' sum worst a) q' lb' fo' → (∀ k, k < j → tr' k = at' k) → Z none (z_H (moS S q' lb' fo' tr'))) → z_EvM e 73 153 [z_p 59, .inl (nI j), .inl (nI t), .inl sum, .inl bang, .inl worst] (z_H (moS S q lb fo tr)) Z
section
variable {S D : z_S} {n : Nat} {bang : Int32} {Z : z_Zt}
set_option maxRecDepth 20000 in
theorem l_M_gets {e m j t : Nat} {at' : Nat → Int32} {sum worst : Int32} (hD : z_Rl (S.2 61) D) (hc : D.1 3 = nI n) (hn : n ≤ 5) (hjm : j + (m + 1) = cM (D.2 3) n) (hm : mk2 nI n j t at') (hw : ¬ worst < 0) {Bf : Nat} (hBf : Bf < 2 ^ 31) (rc : G_sp S D n bang (e + 3) m (j + 1)) : ∀ r s B (a : z_Oa) q lb (fo tr : Nat → Int32), s + r = n → B + r * 5 ^ m ≤ Bf → mR (cM (D.2 3) n) B a q lb fo → (∀ k, k < j → tr k = at' k) → (∀ q' lb' fo' tr', mR (cM (D.2 3) n) Bf (itF (fun a c => if D.2 3 c = 0 then a else orG n (D.2 3) (tuR D) bang m j at' sum worst a c) r s a) q' lb' fo' → (∀ k, k < j → tr' k = at' k) → Z none (z_H (moS S q' lb' fo' tr'))) → z_Run (e + 4) 73 (z_own 8) z_m153.2.1 z_m153.2.2.1 none (fun v h' => z_nar z_m153.2.2.2.1 v ∧ Z v h') 88 [(0, z_p 59), (1, .inl (nI j)), (2, .inl (nI t)), (3, .inl sum), (4, .inl bang), (5, .inl worst), (6, .inl (nI s))] [] (z_H (moS S q lb fo tr)) := by
  have hM5 : cM (D.2 3) n ≤ n := cM_le _ n
  have hs3 : S.2 61 3 = nI n := (hD.1 3 (by omega)).trans hc
  have ht : t < 2 ^ 31 := by have := hm.1; omega
  intro r
  induction r with
  | zero =>
    intro s B a q lb fo tr hs hB ha hat hz
    refine z_Run_of z_tk153 [] 60 (fun C K R hC hK hR => ?_)
    refine And.intro (vp_in_iff.mpr (by decide)) ?_
    refine And.intro (fun _ => ?_) (fun qq => absurd (show S.2 61 3 ≤ nI s by rw [hs3]; exact nI_le (by omega) (by omega)) qq)
    exact hR _ _ ⟨rfl, hz q lb fo tr (mR_mono ha (by omega)) hat⟩
  | succ r ih =>
    intro s B a q lb fo tr hs hB ha hat hz
    have hcl : (nI s).toNatClampNeg = s := nI_clamp (by omega)
    have hcj : (nI j).toNatClampNeg = j := nI_clamp (by omega)
    have hij : vp_in (nI j) 5 := vp_in_nI (by omega) (by omega)
    have hb := bi_tst1 (t := t) (s := s) ht (by omega)
    have hu := hm.2 s (by omega)
    have hle : r * 5 ^ m ≤ (r + 1) * 5 ^ m := Nat.mul_le_mul_right _ (Nat.le_succ r)
    have hmul : (r + 1) * 5 ^ m = r * 5 ^ m + 5 ^ m := Nat.succ_mul _ _
    have skip : (D.2 3 s = 0 ∨ usedF j at' (nI s) = true) → z_Run (e + 4) 73 (z_own 8) z_m153.2.1 z_m153.2.2.1 none (fun v h' => z_nar z_m153.2.2.2.1 v ∧ Z v h') 88 [(0, z_p 59), (1, .inl (nI j)), (2, .inl (nI t)), (3, .inl sum), (4, .inl bang), (5, .inl worst), (6, .inl (nI s + 1))] [] (z_H (moS S q lb fo tr)) := by
      intro h
      have := ih (s + 1) B a q lb fo tr (by omega) (by omega) ha hat (fun q' lb' fo' tr' h1 h2 => hz q' lb' fo' tr' (by
        rw [itF_S]
        by_cases h0 : D.2 3 s = 0
        · rw [if_pos h0]; exact h1
        · rw [if_neg h0, orG, if_pos (h.resolve_left h0)]; exact h1) h2)
      rw [nI_succ] at this
      exact this
    refine z_Run_of z_tk153 [(88, [0, 1, 2, 3, 4, 5, 6]), (145, [0, 1, 2, 3, 4, 5, 6, 7])] 60 (fun C K R hC hK hR => ?_)
    refine And.intro (vp_in_iff.mpr (by decide)) ?_
    refine And.intro (fun qq => absurd (show S.2 61 3 ≤ nI s from qq) (by rw [hs3]; exact nI_ge (by omega) (by omega))) (fun _ => ?_)
    refine And.intro (fun e1 => hK _ _ _ _ (skip (Or.inr (hu.symm.trans (hb.mp e1))))) (fun e1 => ?_)
    have hu2 : ¬ usedF j at' (nI s) = true := by
      intro z
      exact e1 (hb.mpr (hu.trans z))
    conv => whnf
    refine hC _ _ _ _ (s_M_seatN (S := moS S q lb fo tr) hD (by omega) ?_)
    refine And.intro (fun e2 => ?_) (fun e2 => hK _ _ _ _ (skip (Or.inl e2)))
    refine And.intro hij ?_
    conv => whnf
    refine hC _ _ _ _ (s_M_seatN (S := moS S q lb fo (upd tr (nI j).toNatClampNeg (nI s))) hD (by omega) ?_)
    conv => whnf
    refine hC _ _ _ _ (s_M_turnN (S := moS S q lb fo (upd tr (nI j).toNatClampNeg (nI s))) hD (by omega) (fun rr hrr => ?_))
    have hrr : rr = tuR D s := hrr
    subst hrr
    refine hK _ _ _ _ (show z_Run (e + 4) 73 (z_own 8) z_m153.2.1 z_m153.2.2.1 none (fun v h' => z_nar z_m153.2.2.2.1 v ∧ Z v h') 145 [(0, z_p 59), (1, .inl (nI j)), (2, .inl (nI t)), (3, .inl sum), (4, .inl bang), (5, .inl worst), (6, .inl (nI s)), (7, .inl (sum + tuR D s))] [] (z_H (moS S q lb fo (upd tr (nI j).toNatClampNeg (nI s)))) from ?_)
    rw [hcj]
    generalize hth : sum + tuR D s = th
    have t179 : ∀ w2, w2 = mxF worst (absF th) → z_Run (e + 4) 73 (z_own 8) z_m153.2.1 z_m153.2.2.1 none (fun v h' => z_nar z_m153.2.2.2.1 v ∧ Z v h') 179 [(0, z_p 59), (1, .inl (nI j)), (2, .inl (nI t)), (3, .inl sum), (4, .inl bang), (5, .inl worst), (6, .inl (nI s))] [.inl w2, .inl bang, .inl th, .inl (nI t ||| ((1 : Int32) <<< (nI s &&& 31))), .inl (nI j + 1), z_p 59] (z_H (moS S q lb fo (upd tr j (nI s)))) := by
      intro w2 hw2
      subst hw2
      rw [bi_one ⟨s, by omega⟩, bi_or, ← nI_succ]
      refine z_Run_of z_tk153 [(88, [0, 1, 2, 3, 4, 5, 6])] 60 (fun C K R hC hK hR => ?_)
      conv => whnf
      refine hC _ _ _ _ (rc B (t ||| 2 ^ s) (upd at' j (nI s)) th (mxF worst (absF th)) a q lb fo (upd tr j (nI s)) _ (mk2_st (num := nI) hm (by omega) (by omega) (fun r hr h => (nI_eq (by omega) (by omega)).mp h)) (fun k hk => ?_) ha (mx_nn hw) (by omega) (fun q' lb' fo' tr' h1 h2 => ?_))
      · by_cases q0 : k = j
        · subst q0; rw [pk_us, pk_us]
        · rw [pk_un q0, pk_un q0]; exact hat k (by omega)
      · have := ih (s + 1) (B + 5 ^ m) _ q' lb' fo' tr' (by omega) (by omega) h1 (fun k hk => by rw [h2 k (by omega), pk_un (by omega)]) (fun q2 lb2 fo2 tr2 h3 h4 => hz q2 lb2 fo2 tr2 (by
          rw [itF_S, if_neg e2, orG, if_neg hu2, hth]
          exact h3) h4)
        rw [nI_succ] at this
        exact hK _ _ _ _ this
    refine z_Run_of z_tk153 [(179, [0, 1, 2, 3, 4, 5, 6])] 60 (fun C K R hC hK hR => ?_)
    conv => whnf
    refine hC _ _ _ _ (s_M_amount (h := z_H (moS S q lb fo (upd tr j (nI s)))) (fun r5 hr5 => ?_))
    have e5 : r5 = absF th := hr5
    subst e5
    refine And.intro (fun e3 => ?_) (fun e3 => ?_)
    · exact hK _ _ _ _ (t179 worst (by unfold mxF; rw [if_neg (nlt_le e3)]))
    · conv => whnf
      refine hC _ _ _ _ (s_M_amount (h := z_H (moS S q lb fo (upd tr j (nI s)))) (fun r6 hr6 => ?_))
      have e6 : r6 = absF th := hr6
      subst e6
      exact hK _ _ _ _ (t179 (absF th) (by unfold mxF; rw [if_pos (lt_nge e3)]))
set_option maxRecDepth 20000 in
theorem s_M_gets (hD : z_Rl (S.2 61) D) (hc : D.1 3 = nI n) (hn : n ≤ 5) : ∀ m j e, j + m = cM (D.2 3) n → m + 5 ≤ e → G_sp S D n bang e m j := by
  have hM5 : cM (D.2 3) n ≤ n := cM_le _ n
  intro m
  induction m with
  | zero =>
    intro j e hj he B t at' sum worst a q lb fo tr Z hm hat ha hw hB hz
    obtain ⟨d, rfl⟩ : ∃ d, e = d + 4 := ⟨e - 4, by omega⟩
    have hj : j = cM (D.2 3) n := by omega
    exact s_M_orLeaf (a := a) (at' := at') hD hc hn hj (by simpa using hB) (by rw [hj]; exact ha) (fun k hk => hat k hk) hw (fun q' lb' fo' h1 => hz q' lb' fo' tr (by rw [hj] at h1; simpa [orF] using h1) hat)
  | succ m ih =>
    intro j e hj he B t at' sum worst a q lb fo tr Z hm hat ha hw hB hz
    obtain ⟨d, rfl⟩ : ∃ d, e = d + 4 := ⟨e - 4, by omega⟩
    have rc := ih (j + 1) (d + 3) (by omega) (by omega)
    have hp5 : 5 ^ (m + 1) = 5 * 5 ^ m := by rw [Nat.pow_succ, Nat.mul_comm]
    have hle : n * 5 ^ m ≤ 5 * 5 ^ m := Nat.mul_le_mul_right _ (by omega)
    refine z_go (c := 8) (t := z_t153) rfl rfl rfl z_tk153 [(88, [0, 1, 2, 3, 4, 5, 6])] 60 (fun C K R hC hK hR => ?_)
    conv => whnf
    refine hC _ _ _ _ (s_M_sitters (S := moS S q lb fo tr) hD hc hn ?_)
    refine And.intro (fun _ => ?_) (fun qq => ?_)
    · refine hK _ _ _ _ (l_M_gets (e := d) hD hc hn hj hm hw hB rc n 0 B a q lb fo tr (by omega) (by omega) ha hat (fun q' lb' fo' tr' h1 h2 => hz q' lb' fo' tr' (by rw [orF_S]; exact h1) h2))
    · have qq : nI j = cntF (D.2 3) n := qq
      rw [cM_cnt] at qq
      have := (nI_eq (by omega) (by omega)).mp qq
      omega
end
