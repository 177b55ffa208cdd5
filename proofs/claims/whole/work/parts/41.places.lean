/-! placings: the reference's going through -/
def okA (a : z_Pa) : Prop := a.2.1 = -9 ∨ ¬ a.2.1 < 0
def lJ (n B : Nat) (a : z_Pa) (fl : Nat → Int32) : Prop := (a.1 = 0 ∧ ¬ a.2.1 = 0) ∨ (∃ k, 1 ≤ k ∧ k ≤ B ∧ a.1 = nI k ∧ a.2.1 = 0 ∧ ∀ i, i < n → fl i = a.2.2 i)
def sB (c : Nat) (sum : Int32) : Prop := -nI (200 + 2640 * c) ≤ sum ∧ sum ≤ nI (200 + 2640 * c)
theorem wx_all : ∀ i : Fin 61, ∀ j : Fin 45, (-1320 : Int32) ≤ nI i.val * (-22 + nI j.val) ∧ nI i.val * (-22 + nI j.val) ≤ 1320 := by decide +kernel
theorem wx_bd {w x : Int32} (h1 : 1 ≤ w) (h2 : w ≤ 60) (h3 : -22 ≤ x) (h4 : x ≤ 22) : -1320 ≤ w * x ∧ w * x ≤ 1320 := by
  obtain ⟨i, rfl⟩ := z_rng (x := w) 0 61 (n := 61) rfl (by decide) (by grind) (by grind) (by grind)
  obtain ⟨j, rfl⟩ := z_rng (x := x) (-22) 45 (n := 45) rfl (by decide) h3 (by grind) (by grind)
  have := wx_all i j
  have e : (0 : Int32) + nI i.val = nI i.val := by grind
  rw [e]
  exact this
theorem hf_all : ∀ k : Fin 2641, (-1320 : Int32) ≤ (-1320 + nI k.val) / 2 ∧ (-1320 + nI k.val) / 2 ≤ 1320 := by decide +kernel
theorem hf_bd {x : Int32} (h1 : -1320 ≤ x) (h2 : x ≤ 1320) : -1320 ≤ x / 2 ∧ x / 2 ≤ 1320 := by
  obtain ⟨k, rfl⟩ := z_rng (x := x) (-1320) 2641 (n := 2641) rfl (by decide) h1 (by grind) (by grind)
  exact hf_all k
theorem tn_bd {kd w a : Int32} (h1 : 1 ≤ w) (h2 : w ≤ 60) (h3 : -20 ≤ a) (h4 : a ≤ 20) : -2640 ≤ turnF kd w a ∧ turnF kd w a ≤ 2640 := by
  have b0 := wx_bd h1 h2 (x := a) (by grind) (by grind)
  have b1 : -1320 ≤ hangF w a ∧ hangF w a ≤ 1320 := wx_bd h1 h2 (by split <;> grind) (by split <;> grind)
  have b2 : -1320 ≤ innF w a ∧ innF w a ≤ 1320 := wx_bd h1 h2 (by split <;> grind) (by split <;> grind)
  have b3 := hf_bd b2.1 b2.2
  unfold turnF
  generalize w * a = x0 at b0
  generalize hangF w a = x1 at b1
  generalize innF w a / 2 = x3 at b3
  generalize innF w a = x2 at b2
  split
  · grind
  · split
    · grind
    · split
      · grind
      · split
        · grind
        · split <;> grind
theorem sB_st {c : Nat} {sum t : Int32} (h : sB c sum) (hc : c < 5) (h1 : -2640 ≤ t) (h2 : t ≤ 2640) : sB (c + 1) (sum + t) := by
  obtain ⟨a, b⟩ := h
  have e : nI (200 + 2640 * (c + 1)) = nI (200 + 2640 * c) + 2640 := by
    rw [show 200 + 2640 * (c + 1) = 200 + 2640 * c + 2640 by omega, ← nI_add]
    rfl
  have h3 : (0 : Int32) ≤ nI (200 + 2640 * c) := nI_pos' (by omega)
  have h4 : nI (200 + 2640 * c) ≤ 13000 := nI_le (a := 200 + 2640 * c) (b := 13000) (by omega) (by omega)
  unfold sB
  rw [e]
  generalize nI (200 + 2640 * c) = y at a b h3 h4
  constructor <;> grind
theorem abs_nn {x : Int32} (h : -15000 ≤ x) : ¬ absF x < 0 := by
  unfold absF
  by_cases q : x < 0
  · rw [if_pos q]
    grind
  · rw [if_neg q]
    exact q
theorem neg_le {x y : Int32} (h1 : 0 ≤ x) (h2 : x ≤ 15000) (h3 : -x ≤ y) : -15000 ≤ y := by grind
theorem sB_abs {c : Nat} {sum : Int32} (h : sB c sum) (hc : c ≤ 5) : ¬ absF sum < 0 := abs_nn (neg_le (nI_pos' (by omega)) (nI_le (a := 200 + 2640 * c) (b := 15000) (by omega) (by omega)) h.1)
theorem leaf_ok {n B : Nat} {a : z_Pa} {sum : Int32} {at' fl fl' : Nat → Int32} (hB : B + 1 < 2 ^ 31) (ha : okA a) (hl : lJ n B a fl) (hs : ¬ absF sum < 0) (h1 : sum = 0 → a.1 = 0 → ∀ i, i < n → fl' i = at' i) (h2 : ¬ (sum = 0 ∧ a.1 = 0) → fl' = fl) : okA (leafF sum at' a) ∧ lJ n (B + 1) (leafF sum at' a) fl' := by
  have e0 := abs_0 (x := sum)
  constructor
  · unfold okA leafF
    show (if a.2.1 = -9 ∨ absF sum < a.2.1 then absF sum else a.2.1) = -9 ∨ ¬ (if a.2.1 = -9 ∨ absF sum < a.2.1 then absF sum else a.2.1) < 0
    by_cases q : a.2.1 = -9 ∨ absF sum < a.2.1
    · rw [if_pos q]; exact Or.inr hs
    · rw [if_neg q]; exact ha
  · rcases hl with ⟨l1, l2⟩ | ⟨k, k1, k2, k3, k4, k5⟩
    · by_cases q0 : sum = 0
      · have hq : a.2.1 = -9 ∨ absF sum < a.2.1 := by
          rcases ha with ha | ha
          · exact Or.inl ha
          · have := e0.mpr q0
            exact Or.inr (by rw [this]; clear h1 h2; grind)
        refine Or.inr ⟨1, by omega, by omega, ?_, ?_, ?_⟩
        · show (if sum = 0 then a.1 + 1 else a.1) = nI 1
          rw [if_pos q0, l1]; rfl
        · show (if a.2.1 = -9 ∨ absF sum < a.2.1 then absF sum else a.2.1) = 0
          rw [if_pos hq]; exact e0.mpr q0
        · intro i hi
          show _ = (if a.2.1 = -9 ∨ absF sum < a.2.1 then at' else a.2.2) i
          rw [if_pos hq]
          exact h1 q0 l1 i hi
      · refine Or.inl ⟨?_, ?_⟩
        · show (if sum = 0 then a.1 + 1 else a.1) = 0
          rw [if_neg q0]; exact l1
        · show ¬ (if a.2.1 = -9 ∨ absF sum < a.2.1 then absF sum else a.2.1) = 0
          split
          · exact fun z => q0 (e0.mp z)
          · exact l2
    · have hq : ¬ (a.2.1 = -9 ∨ absF sum < a.2.1) := by
        rw [k4]
        intro z
        rcases z with z | z
        · exact absurd z (by decide)
        · exact hs z
      have hfl : fl' = fl := by
        refine h2 (fun z => ?_)
        have := z.2
        rw [k3] at this
        exact nI_ne0 (by omega) (by omega) this
      have eb : (leafF sum at' a).2.2 = a.2.2 := if_neg hq
      have el : (leafF sum at' a).2.1 = 0 := (if_neg hq).trans k4
      by_cases q0 : sum = 0
      · refine Or.inr ⟨k + 1, by omega, by omega, ?_, el, fun i hi => by rw [hfl, eb]; exact k5 i hi⟩
        show (if sum = 0 then a.1 + 1 else a.1) = nI (k + 1)
        rw [if_pos q0, k3, nI_succ]
      · refine Or.inr ⟨k, k1, by omega, ?_, el, fun i hi => by rw [hfl, eb]; exact k5 i hi⟩
        show (if sum = 0 then a.1 + 1 else a.1) = nI k
        rw [if_neg q0]; exact k3
def mS (S : z_S) (lv le : Int32) (fl fb tr : Nat → Int32) : z_S := z_w (z_w (z_w (z_u (z_u S 42 lv) 43 le) 67 fl) 68 fb) 66 tr
section
variable {d n c : Nat} {S : z_S} {Z : z_Zt} {sum lv le far : Int32} {fl fb tr : Nat → Int32}
set_option maxRecDepth 20000 in
theorem l_M_plLevel (hn : n ≤ 5) (hlv : lv = 0) (next : ∀ fl', (∀ i, i < n → fl' i = tr i) → z_Run (d + 1) 73 (z_own 8) z_m145.2.1 z_m145.2.2.1 none (fun v h' => z_nar z_m145.2.2.2.1 v ∧ Z v h') 55 [(0, z_p 59), (1, .inl (nI n)), (3, .inl far)] [] (z_H (mS S lv le fl' fb tr))) : ∀ m k fl, k + m = n → (∀ i, i < k → fl i = tr i) → z_Run (d + 1) 73 (z_own 8) z_m145.2.1 z_m145.2.2.1 none (fun v h' => z_nar z_m145.2.2.2.1 v ∧ Z v h') 22 [(0, z_p 59), (1, .inl (nI n)), (3, .inl far), (4, .inl (nI k))] [] (z_H (mS S lv le fl fb tr)) := by
  intro m
  induction m with
  | zero =>
    intro k fl hk hf
    have hk : k = n := by omega
    subst hk
    refine z_Run_of z_tk145 [(55, [0, 1, 3])] 60 (fun C K R hC hK hR => ?_)
    refine And.intro (fun q => hK _ _ _ _ (next fl hf)) (fun q => absurd (nI_le (Nat.le_refl k) (by omega)) q)
  | succ m ih =>
    intro k fl hk hf
    have hcl : (nI k).toNatClampNeg = k := nI_clamp (by omega)
    have hin : vp_in (nI k) 5 := vp_in_nI (by omega) (by omega)
    refine z_Run_of z_tk145 [(22, [0, 1, 3, 4])] 60 (fun C K R hC hK hR => ?_)
    refine And.intro (fun q => absurd q (nI_ge (by omega) (by omega))) (fun q => ?_)
    refine And.intro (fun q => absurd hlv q) (fun q => ?_)
    refine And.intro hin (And.intro hin ?_)
    have := ih (k + 1) (upd fl (nI k).toNatClampNeg (tr (nI k).toNatClampNeg)) (by omega) (fun i hi => by
      rw [hcl]
      by_cases e : i = k
      · subst e; exact pk_us
      · rw [pk_un e]; exact hf i (by omega))
    rw [nI_succ] at this
    exact hK _ _ _ _ this
set_option maxRecDepth 20000 in
theorem l_M_plBest (hn : n ≤ 5) (hz : ∀ fb', (∀ i, i < n → fb' i = tr i) → Z none (z_H (mS S lv le fl fb' tr))) : ∀ m k fb, k + m = n → (∀ i, i < k → fb i = tr i) → z_Run (d + 1) 73 (z_own 8) z_m145.2.1 z_m145.2.2.1 none (fun v h' => z_nar z_m145.2.2.2.1 v ∧ Z v h') 88 [(0, z_p 59), (1, .inl (nI n)), (4, .inl (nI k))] [] (z_H (mS S lv le fl fb tr)) := by
  intro m
  induction m with
  | zero =>
    intro k fb hk hf
    have hk : k = n := by omega
    subst hk
    refine z_Run_of z_tk145 [] 60 (fun C K R hC hK hR => ?_)
    refine And.intro (fun q => hR _ _ ⟨rfl, hz fb hf⟩) (fun q => absurd (nI_le (Nat.le_refl k) (by omega)) q)
  | succ m ih =>
    intro k fb hk hf
    have hcl : (nI k).toNatClampNeg = k := nI_clamp (by omega)
    have hin : vp_in (nI k) 5 := vp_in_nI (by omega) (by omega)
    refine z_Run_of z_tk145 [(88, [0, 1, 4])] 60 (fun C K R hC hK hR => ?_)
    refine And.intro (fun q => absurd q (nI_ge (by omega) (by omega))) (fun q => ?_)
    refine And.intro hin (And.intro hin ?_)
    have := ih (k + 1) (upd fb (nI k).toNatClampNeg (tr (nI k).toNatClampNeg)) (by omega) (fun i hi => by
      rw [hcl]
      by_cases e : i = k
      · subst e; exact pk_us
      · rw [pk_un e]; exact hf i (by omega))
    rw [nI_succ] at this
    exact hK _ _ _ _ this
set_option maxRecDepth 20000 in
theorem s_M_plLeaf {B : Nat} {a : z_Pa} {at' : Nat → Int32} {D : z_S} (hD : z_Rl (S.2 61) D) (hc : D.1 3 = nI n) (hn : n ≤ 5) (hat : ∀ k, k < n → tr k = at' k) (ha : aR n a lv le fb) (hl : lJ n B a fl) (ho : okA a) (hs : sB n sum) (hB : B + 1 < 2 ^ 31) (hz : ∀ lv' le' fl' fb', aR n (leafF sum at' a) lv' le' fb' → lJ n (B + 1) (leafF sum at' a) fl' → okA (leafF sum at' a) → Z none (z_H (mS S lv' le' fl' fb' tr))) : z_EvM (d + 2) 73 145 [z_p 59, .inl (nI n), .inl sum] (z_H (mS S lv le fl fb tr)) Z := by
  have hs3 : S.2 61 3 = nI n := (hD.1 3 (by omega)).trans hc
  have habs := sB_abs hs hn
  obtain ⟨a1, a2, a3⟩ := id ha
  have tail : ∀ lv' fl', lv' = (if sum = 0 then a.1 + 1 else a.1) → okA (leafF sum at' a) → lJ n (B + 1) (leafF sum at' a) fl' → z_Run (d + 2) 73 (z_own 8) z_m145.2.1 z_m145.2.2.1 none (fun v h' => z_nar z_m145.2.2.2.1 v ∧ Z v h') 65 [(0, z_p 59), (1, .inl (nI n)), (3, .inl (absF sum))] [] (z_H (mS S lv' le fl' fb tr)) := by
    intro lv' fl' hlv' hok' hlj'
    have store : (a.2.1 = -9 ∨ absF sum < a.2.1) → z_Run (d + 2) 73 (z_own 8) z_m145.2.1 z_m145.2.2.1 none (fun v h' => z_nar z_m145.2.2.2.1 v ∧ Z v h') 80 [(0, z_p 59), (1, .inl (nI n)), (3, .inl (absF sum))] [] (z_H (mS S lv' le fl' fb tr)) := by
      intro h
      refine z_Run_of z_tk145 [(88, [0, 1, 4])] 60 (fun C K R hC hK hR => ?_)
      refine hK _ _ _ _ (l_M_plBest (d := d + 1) (S := S) (lv := lv') (le := absF sum) (fl := fl') (tr := tr) hn (fun fb' hfb => hz lv' (absF sum) fl' fb' ⟨hlv', (if_pos h).symm, Or.inr (fun k hk => ?_)⟩ hlj' hok') n 0 fb (by omega) (fun i hi => by omega))
      show _ = (if a.2.1 = -9 ∨ absF sum < a.2.1 then at' else a.2.2) k
      rw [if_pos h, hfb k hk]
      exact hat k hk
    have keep : ¬ (a.2.1 = -9 ∨ absF sum < a.2.1) → Z none (z_H (mS S lv' le fl' fb tr)) := by
      intro h
      refine hz lv' le fl' fb ⟨hlv', a2.trans (if_neg h).symm, Or.inr (fun k hk => ?_)⟩ hlj' hok'
      show _ = (if a.2.1 = -9 ∨ absF sum < a.2.1 then at' else a.2.2) k
      rw [if_neg h]
      exact a3.resolve_left (fun z => h (Or.inl z)) k hk
    refine z_Run_of z_tk145 [(80, [0, 1, 3])] 60 (fun C K R hC hK hR => ?_)
    refine And.intro (fun e => ?_) (fun e => And.intro (fun e2 => ?_) (fun e2 => ?_))
    · have e : le < 0 := e
      rw [a2] at e
      exact hK _ _ _ _ (store (Or.inl (ho.resolve_right (fun z => z e))))
    · have e : ¬ le < 0 := e
      have e2 : le ≤ absF sum := e2
      rw [a2] at e e2
      exact hR _ _ ⟨rfl, keep (fun z => by
        rcases z with z | z
        · rw [z] at e; exact e (by decide)
        · exact nlt_le e2 z)⟩
    · have e2 : ¬ le ≤ absF sum := e2
      rw [a2] at e2
      exact hK _ _ _ _ (store (Or.inr (lt_nge e2)))
  refine z_go (c := 8) (t := z_t145) rfl rfl rfl z_tk145 [(22, [0, 1, 3, 4]), (55, [0, 1, 3]), (65, [0, 1, 3])] 60 (fun C K R hC hK hR => ?_)
  refine And.intro (vp_in_iff.mpr (by decide)) ?_
  refine And.intro (fun q => absurd hs3.symm q) (fun _ => ?_)
  conv => whnf
  refine hC _ _ _ _ (s_M_amount (h := z_H (mS S lv le fl fb tr)) (fun r hr => ?_))
  have hr : r = absF sum := hr
  subst hr
  refine And.intro (fun e => ?_) (fun e => ?_)
  · have lf := leaf_ok (at' := at') hB ho hl habs (fl' := fl) (fun z => absurd z e) (fun _ => rfl)
    exact hK _ _ _ _ (tail lv fl (by rw [if_neg e]; exact a1) lf.1 lf.2)
  · have n55 : ∀ fl', okA (leafF sum at' a) → lJ n (B + 1) (leafF sum at' a) fl' → z_Run (d + 2) 73 (z_own 8) z_m145.2.1 z_m145.2.2.1 none (fun v h' => z_nar z_m145.2.2.2.1 v ∧ Z v h') 55 [(0, z_p 59), (1, .inl (nI n)), (3, .inl (absF sum))] [] (z_H (mS S lv le fl' fb tr)) := by
      intro fl' h1 h2
      have := tail (lv + 1) fl' (by rw [if_pos e, a1]) h1 h2
      refine z_Run_of z_tk145 [(65, [0, 1, 3])] 60 (fun C K R hC hK hR => ?_)
      exact hK _ _ _ _ this
    by_cases hlv : lv = 0
    · refine hK _ _ _ _ (l_M_plLevel (d := d + 1) hn hlv (fun fl' hf => ?_) n 0 fl (by omega) (fun i hi => by omega))
      have lf := leaf_ok (at' := at') hB ho hl habs (fl' := fl') (fun _ _ i hi => by rw [hf i hi]; exact hat i hi) (fun z => absurd ⟨e, a1.symm.trans hlv⟩ z)
      exact n55 fl' lf.1 lf.2
    · have lf := leaf_ok (at' := at') hB ho hl habs (fl' := fl) (fun _ z => absurd (a1.trans z) hlv) (fun _ => rfl)
      refine hK _ _ _ _ ?_
      refine z_Run_of z_tk145 [(55, [0, 1, 3])] 60 (fun C K R hC hK hR => ?_)
      refine And.intro (fun q => hK _ _ _ _ (n55 fl lf.1 lf.2)) (fun q => ?_)
      refine And.intro (fun q => hK _ _ _ _ (n55 fl lf.1 lf.2)) (fun q => absurd (show lv = 0 from q) hlv)
end
