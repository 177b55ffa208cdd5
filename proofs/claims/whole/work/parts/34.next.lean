/-! next -/
def sdN (x : Int32) : Nat := if x < 0 then 0 else if x = 0 then 1 else 2
theorem sdN_eq (x : Int32) : sideF x = nI (sdN x) := by
  unfold sideF sdN
  by_cases h : x < 0
  · rw [if_pos h, if_pos h]; rfl
  · rw [if_neg h, if_neg h]
    by_cases h2 : x = 0
    · rw [if_pos h2, if_pos h2]; rfl
    · rw [if_neg h2, if_neg h2]; rfl
theorem sdN_lt (x : Int32) : sdN x < 3 := by
  unfold sdN
  split
  · omega
  · split <;> omega
def gpS (gb : Int32 → Bool) (sd : Int32 → Nat) (w : Nat) (p : Nat → Nat) : Nat → Nat := if gb (nI w) = true then (fun j => if j = sd (nI w) then p j + 1 else p j) else p
def gpN (gb : Int32 → Bool) (sd : Int32 → Nat) : Nat → Nat → (Nat → Nat) → (Nat → Nat)
  | 0, _, p => p
  | m + 1, w, p => gpN gb sd m (w + 1) (gpS gb sd w p)
def cN (gb : Int32 → Bool) : Nat → Nat → Nat
  | 0, _ => 0
  | m + 1, w => (if gb (nI w) = true then 1 else 0) + cN gb m (w + 1)
theorem cN_le (gb : Int32 → Bool) : ∀ m w, cN gb m w ≤ m := by
  intro m
  induction m with
  | zero => intro w; exact Nat.le_refl _
  | succ m ih =>
    intro w
    rw [cN]
    have := ih (w + 1)
    split <;> omega
theorem gpS_sum {gb : Int32 → Bool} {sd : Int32 → Nat} (hs : ∀ x, sd x < 3) (w : Nat) (p : Nat → Nat) : gpS gb sd w p 0 + gpS gb sd w p 1 + gpS gb sd w p 2 = p 0 + p 1 + p 2 + (if gb (nI w) = true then 1 else 0) := by
  unfold gpS
  by_cases h : gb (nI w) = true
  · rw [if_pos h, if_pos h]
    have := hs (nI w)
    generalize sd (nI w) = k at this
    rcases k with _ | _ | _ | k
    · simp; omega
    · simp; omega
    · simp; omega
    · omega
  · rw [if_neg h, if_neg h]; rfl
theorem gpN_sum {gb : Int32 → Bool} {sd : Int32 → Nat} (hs : ∀ x, sd x < 3) : ∀ m w p, gpN gb sd m w p 0 + gpN gb sd m w p 1 + gpN gb sd m w p 2 = p 0 + p 1 + p 2 + cN gb m w := by
  intro m
  induction m with
  | zero => intro w p; rfl
  | succ m ih =>
    intro w p
    rw [gpN, ih, gpS_sum hs, cN]
    omega
theorem foF_cN {gb : Int32 → Bool} : ∀ m w st, (foF gb m w st).1 = st.1 + nI (cN gb m w) := by
  intro m
  induction m with
  | zero =>
    intro w st
    show st.1 = st.1 + nI 0
    rw [nI_0]
    grind
  | succ m ih =>
    intro w st
    rw [foF, ih, cN, foS, ← nI_add]
    by_cases h : gb (nI w) = true
    · rw [if_pos h, if_pos h]
      show st.1 + 1 + _ = _
      rw [show nI 1 = 1 from rfl]
      grind
    · rw [if_neg h, if_neg h, nI_0]
      grind
theorem foA_cN (D : z_S) (g : Nat) : (foA D g).1 = nI (cN (goD D g) 60 1) := by
  unfold foA
  rw [foF_cN]
  show 0 + _ = _
  grind
def mxN (p : Nat → Nat) : Nat := if p 0 < (if p 1 < p 2 then p 2 else p 1) then (if p 1 < p 2 then p 2 else p 1) else p 0
theorem mx_x {a b c : Nat} (ha : a < 2 ^ 31) (hb : b < 2 ^ 31) (hc : c < 2 ^ 31) : (if nI a < (if nI b < nI c then nI c else nI b) then (if nI b < nI c then nI c else nI b) else nI a) = nI (if a < (if b < c then c else b) then (if b < c then c else b) else a) := by
  have e : (if nI b < nI c then nI c else nI b) = nI (if b < c then c else b) := by
    by_cases h : b < c
    · rw [if_pos h, if_pos (nI_lt h hc)]
    · rw [if_neg h, if_neg (nI_nlt (by omega) hb)]
  rw [e]
  generalize hm : (if b < c then c else b) = m
  have hm2 : m < 2 ^ 31 := by rw [← hm]; split <;> assumption
  by_cases h : a < m
  · rw [if_pos h, if_pos (nI_lt h hm2)]
  · rw [if_neg h, if_neg (nI_nlt (by omega) ha)]
/-- the parts of a row of three -/
def pR (p : Nat → Int32) (P : Nat → Nat) (b : Nat) : Prop := ∀ k, k < 3 → p k = nI (P k) ∧ P k ≤ b
theorem pR_st {p : Nat → Int32} {P : Nat → Nat} {b k : Nat} (h : pR p P b) (hk : k < 3) : pR (upd p k (p k + 1)) (fun j => if j = k then P j + 1 else P j) (b + 1) := by
  intro j hj
  by_cases e : j = k
  · subst e
    rw [pk_us]
    show _ = nI (if j = j then P j + 1 else P j) ∧ (if j = j then P j + 1 else P j) ≤ b + 1
    rw [if_pos rfl, (h j hj).1, nI_succ]
    have := (h j hj).2
    exact ⟨rfl, by omega⟩
  · rw [pk_un e]
    show _ = nI (if j = k then P j + 1 else P j) ∧ (if j = k then P j + 1 else P j) ≤ b + 1
    rw [if_neg e]
    have := h j hj
    exact ⟨this.1, by omega⟩
theorem pR_up {p : Nat → Int32} {P : Nat → Nat} {b : Nat} (h : pR p P b) : pR p P (b + 1) := fun k hk => ⟨(h k hk).1, by have := (h k hk).2; omega⟩
set_option maxRecDepth 20000 in
theorem l_G_greatestPart {d : Nat} {S : z_S} {Z : z_Zt} {gb : Int32 → Bool} {turned arm : Int32} (hf : ∀ j, 1 ≤ j → j < 61 → S.2 24 j = (if gb (nI j) = true then 1 else 0)) : ∀ m w p P, w + m = 61 → 1 ≤ w → pR p P w → (∀ p', Z (some (.inl (nI (mxN (gpN gb (fun x => sdN (turned + x * arm)) m w P))))) (z_H (z_w S 25 p'))) → z_Run (d + 2) 73 (z_own 1) z_m33.2.1 z_m33.2.2.1 none (fun v h' => z_nar z_m33.2.2.2.1 v ∧ Z v h') 23 [(0, z_p 19), (1, .inl turned), (2, .inl arm), (3, .inl (nI w))] [] (z_H (z_w S 25 p)) := by
  intro m
  induction m with
  | zero =>
    intro w p P hw h1 hp hz
    have hw : w = 61 := by omega
    subst hw
    obtain ⟨a1, a2⟩ := hp 0 (by omega)
    obtain ⟨b1, b2⟩ := hp 1 (by omega)
    obtain ⟨c1, c2⟩ := hp 2 (by omega)
    refine z_Run_of z_tk33 [] 60 (fun C K R hC hK hR => ?_)
    refine And.intro (fun q => ?_) (fun q => absurd (by decide) q)
    refine And.intro (vp_in_iff.mpr (by decide)) ?_
    refine And.intro (vp_in_iff.mpr (by decide)) ?_
    refine And.intro (vp_in_iff.mpr (by decide)) ?_
    have hz2 := hz p
    rw [gpN] at hz2
    unfold mxN at hz2
    rw [← mx_x (by omega) (by omega) (by omega), ← a1, ← b1, ← c1] at hz2
    exact hR _ _ ⟨⟨_, rfl, rfl⟩, hz2⟩
  | succ m ih =>
    intro w p P hw h1 hp hz
    have hcl : (nI w).toNatClampNeg = w := nI_clamp (by omega)
    have hin : vp_in (nI w) 61 := vp_in_nI (by omega) (by omega)
    have fw := hf w h1 (by omega)
    refine z_Run_of z_tk33 [(23, [0, 1, 2, 3])] 60 (fun C K R hC hK hR => ?_)
    refine And.intro (fun q => absurd q (show ¬ (60 : Int32) < nI w from nI_nlt (a := 60) (b := w) (by omega) (by omega))) (fun q => ?_)
    refine And.intro hin ?_
    refine And.intro (fun e => ?_) (fun e => ?_)
    · have e : S.2 24 (nI w).toNatClampNeg = 0 := e
      rw [hcl, fw] at e
      have hno : ¬ gb (nI w) = true := fun z => by rw [if_pos z] at e; exact absurd e (by decide)
      have := ih (w + 1) p P (by omega) (by omega) (pR_up hp) (fun p' => by
        have := hz p'
        rw [gpN, gpS, if_neg hno] at this
        exact this)
      rw [nI_succ] at this
      exact hK _ _ _ _ this
    · have e : ¬ S.2 24 (nI w).toNatClampNeg = 0 := e
      rw [hcl, fw] at e
      have hyes : gb (nI w) = true := by
        by_cases z : gb (nI w) = true
        · exact z
        · rw [if_neg z] at e
          exact absurd rfl e
      conv => whnf
      refine hC _ _ _ _ (s_X_sideOf (h := z_H (z_w S 25 p)) (fun r hr => ?_))
      have hr : r = nI (sdN (turned + nI w * arm)) := hr.trans (sdN_eq _)
      have hlt := sdN_lt (turned + nI w * arm)
      have hcr : r.toNatClampNeg = sdN (turned + nI w * arm) := by rw [hr]; exact nI_clamp (by omega)
      have hir : vp_in r 3 := by rw [hr]; exact vp_in_nI hlt (by omega)
      refine And.intro hir (And.intro hir ?_)
      have := ih (w + 1) (upd p r.toNatClampNeg (p r.toNatClampNeg + 1)) _ (by omega) (by omega) (by rw [hcr]; exact pR_st hp hlt) (fun p' => by
        have := hz p'
        rw [gpN, gpS, if_pos hyes] at this
        exact this)
      rw [nI_succ] at this
      exact hK _ _ _ _ this
set_option maxRecDepth 20000 in
theorem s_G_greatestPart {d : Nat} {S : z_S} {Z : z_Zt} {gb : Int32 → Bool} {turned arm : Int32} (hf : ∀ j, 1 ≤ j → j < 61 → S.2 24 j = (if gb (nI j) = true then 1 else 0)) {p : Nat → Int32} (hz : ∀ p', Z (some (.inl (nI (mxN (gpN gb (fun x => sdN (turned + x * arm)) 60 1 (fun _ => 0)))))) (z_H (z_w S 25 p'))) : z_EvM (d + 2) 73 33 [z_p 19, .inl turned, .inl arm] (z_H (z_w S 25 p)) Z := by
  refine z_go (c := 1) (t := z_t33) rfl rfl rfl z_tk33 [(23, [0, 1, 2, 3])] 60 (fun C K R hC hK hR => ?_)
  refine And.intro (vp_in_iff.mpr (by decide)) ?_
  refine And.intro (vp_in_iff.mpr (by decide)) ?_
  refine And.intro (vp_in_iff.mpr (by decide)) ?_
  have := l_G_greatestPart (d := d) (S := S) (Z := Z) (turned := turned) (arm := arm) hf 60 1 (upd (upd (upd p 0 0) 1 0) 2 0) (fun _ => 0) (by omega) (by omega) (fun k hk => by
    rcases k with _ | _ | _ | k
    · exact ⟨rfl, Nat.zero_le 1⟩
    · exact ⟨rfl, Nat.zero_le 1⟩
    · exact ⟨rfl, Nat.zero_le 1⟩
    · omega) hz
  exact hK _ _ _ _ this
/-- the greatest part by a bucket of b on x, the child on y -/
def grF (D : z_S) (g : Nat) (x y : Int32) (b : Nat) : Nat := mxN (gpN (goD D g) (fun v => sdN (v * armF (D.1 2) y + nI b * armF (D.1 2) x + ownF (D.1 1) (D.1 2))) 60 1 (fun _ => 0))
def bbF (gr : Nat → Nat) : Nat → Nat → Int32 → Int32 → Int32
  | 0, _, be, _ => be
  | m + 1, b, be, le => if nI (gr b) < le then bbF gr m (b + 1) (nI b) (nI (gr b)) else bbF gr m (b + 1) be le
theorem gr_fun {D : z_S} {g : Nat} {x y : Int32} {b : Nat} : mxN (gpN (goD D g) (fun v => sdN (ownF (D.1 1) (D.1 2) + nI b * armF (D.1 2) x + v * armF (D.1 2) y)) 60 1 (fun _ => 0)) = grF D g x y b := by
  unfold grF
  have e : (fun v : Int32 => sdN (ownF (D.1 1) (D.1 2) + nI b * armF (D.1 2) x + v * armF (D.1 2) y)) = (fun v : Int32 => sdN (v * armF (D.1 2) y + nI b * armF (D.1 2) x + ownF (D.1 1) (D.1 2))) := by
    funext v
    congr 1
    grind
  rw [e]
set_option maxRecDepth 20000 in
theorem l_G_bestBucket {d g : Nat} {S : z_S} {Z : z_Zt} {x y : Int32} (hf : ∀ j, 1 ≤ j → j < 61 → S.2 24 j = (if goD (dN S) g (nI j) = true then 1 else 0)) : ∀ m b be le p, b + m = 100 → (∀ p', Z (some (.inl (bbF (grF (dN S) g x y) m b be le))) (z_H (z_w S 25 p'))) → z_Run (d + 3) 73 (z_own 1) z_m32.2.1 z_m32.2.2.1 none (fun v h' => z_nar z_m32.2.2.2.1 v ∧ Z v h') 11 [(0, z_p 19), (1, z_p 4), (2, .inl x), (3, .inl y), (4, .inl be), (5, .inl le), (6, .inl (nI b))] [] (z_H (z_w S 25 p)) := by
  intro m
  induction m with
  | zero =>
    intro b be le p hb hz
    have hb : b = 100 := by omega
    subst hb
    refine z_Run_of z_tk32 [] 60 (fun C K R hC hK hR => ?_)
    refine And.intro (fun q => ?_) (fun q => absurd (by decide) q)
    exact hR _ _ ⟨⟨_, rfl, rfl⟩, hz p⟩
  | succ m ih =>
    intro b be le p hb hz
    refine z_Run_of z_tk32 [(11, [0, 1, 2, 3, 4, 5, 6])] 60 (fun C K R hC hK hR => ?_)
    refine And.intro (fun q => absurd q (show ¬ (99 : Int32) < nI b from nI_nlt (a := 99) (b := b) (by omega) (by omega))) (fun q => ?_)
    conv => whnf
    refine hC _ _ _ _ (s_B0_ownTurn (S := z_w S 25 p) (fun r1 hr1 => ?_))
    subst hr1
    conv => whnf
    refine hC _ _ _ _ (s_B0_armOf (S := z_w S 25 p) (fun r2 hr2 => ?_))
    subst hr2
    conv => whnf
    refine hC _ _ _ _ (s_B0_armOf (S := z_w S 25 p) (fun r3 hr3 => ?_))
    subst hr3
    conv => whnf
    refine hC _ _ _ _ (s_G_greatestPart (S := S) (gb := goD (dN S) g) hf (fun p' => ?_))
    have eg : mxN (gpN (goD (dN S) g) (fun v => sdN (ownF (S.1 1) (S.1 2) + nI b * armF (S.1 2) x + v * armF (S.1 2) y)) 60 1 (fun _ => 0)) = grF (dN S) g x y b := gr_fun (D := dN S)
    refine And.intro (fun e => ?_) (fun e => ?_)
    · have e : le ≤ nI (mxN (gpN (goD (dN S) g) (fun v => sdN (ownF (S.1 1) (S.1 2) + nI b * armF (S.1 2) x + v * armF (S.1 2) y)) 60 1 (fun _ => 0))) := e
      rw [eg] at e
      have := ih (b + 1) be le p' (by omega) (fun p2 => by
        have := hz p2
        rw [bbF, if_neg (nlt_le e)] at this
        exact this)
      rw [nI_succ] at this
      exact hK _ _ _ _ this
    · have e : ¬ le ≤ nI (mxN (gpN (goD (dN S) g) (fun v => sdN (ownF (S.1 1) (S.1 2) + nI b * armF (S.1 2) x + v * armF (S.1 2) y)) 60 1 (fun _ => 0))) := e
      rw [eg] at e
      have := ih (b + 1) (nI b) (nI (grF (dN S) g x y b)) p' (by omega) (fun p2 => by
        have := hz p2
        rw [bbF, if_pos (lt_nge e)] at this
        exact this)
      rw [nI_succ, ← eg] at this
      exact hK _ _ _ _ this
set_option maxRecDepth 20000 in
theorem s_G_bestBucket {d g : Nat} {S : z_S} {Z : z_Zt} {x y : Int32} (hf : ∀ j, 1 ≤ j → j < 61 → S.2 24 j = (if goD (dN S) g (nI j) = true then 1 else 0)) (hz : ∀ p', Z (some (.inl (bbF (grF (dN S) g x y) 99 1 (-9) 2147483647))) (z_H (z_w S 25 p'))) : z_EvM (d + 3) 73 32 [z_p 19, z_p 4, .inl x, .inl y] (z_H S) Z := by
  refine z_go (c := 1) (t := z_t32) rfl rfl rfl z_tk32 [(11, [0, 1, 2, 3, 4, 5, 6])] 60 (fun C K R hC hK hR => ?_)
  have := l_G_bestBucket (d := d) (S := S) (Z := Z) (x := x) (y := y) hf 99 1 (-9) 2147483647 (S.2 25) (by omega) hz
  exact hK _ _ _ _ this
section
variable {d g : Nat} {S D : z_S} {Z : z_Zt} {x y : Int32}
set_option maxRecDepth 20000 in
theorem l_M_greatestPart {b : Nat} (hD : z_Rl (S.2 61) D) (hg : D.1 4 = nI g) (hg10 : g ≤ 10) (hx : ¬ x = 0) : ∀ m w p P, w + m = 61 → 1 ≤ w → pR p P w → (∀ p', Z (some (.inl (nI (mxN (gpN (goD D g) (fun v => sdN (v * armF (D.1 2) y + nI b * armF (D.1 2) x + ownF (D.1 1) (D.1 2))) m w P))))) (z_H (z_w S 70 p'))) → z_Run (d + 4) 73 (z_own 8) z_m162.2.1 z_m162.2.2.1 none (fun v h' => z_nar z_m162.2.2.2.1 v ∧ Z v h') 26 [(0, z_p 59), (1, .inl (nI b)), (2, .inl x), (3, .inl y), (4, .inl (nI w))] [] (z_H (z_w S 70 p)) := by
  intro m
  induction m with
  | zero =>
    intro w p P hw h1 hp hz
    have hw : w = 61 := by omega
    subst hw
    obtain ⟨a1, a2⟩ := hp 0 (by omega)
    obtain ⟨b1, b2⟩ := hp 1 (by omega)
    obtain ⟨c1, c2⟩ := hp 2 (by omega)
    have hz2 := hz p
    rw [gpN] at hz2
    have tail : ∀ v : Int32, v = nI (if P 1 < P 0 then P 0 else P 1) → z_Run (d + 4) 73 (z_own 8) z_m162.2.1 z_m162.2.2.1 none (fun v h' => z_nar z_m162.2.2.2.1 v ∧ Z v h') 98 [(0, z_p 59), (4, .inl v)] [] (z_H (z_w S 70 p)) := by
      intro v hv
      refine z_Run_of z_tk162 [] 60 (fun C K R hC hK hR => ?_)
      refine And.intro (vp_in_iff.mpr (by decide)) ?_
      refine And.intro (fun e => ?_) (fun e => ?_)
      · have e : p 2 ≤ v := e
        rw [c1, hv] at e
        have e := (nI_leI (by omega) (by split <;> omega)).mp e
        have em : v = nI (mxN P) := by
          rw [hv]
          congr 1
          unfold mxN
          by_cases q1 : P 1 < P 0
          · rw [if_pos q1] at e ⊢
            by_cases q2 : P 1 < P 2
            · rw [if_pos q2, if_neg (by omega)]
            · rw [if_neg q2, if_neg (by omega)]
          · rw [if_neg q1] at e ⊢
            rw [if_neg (show ¬ P 1 < P 2 by omega)]
            split <;> omega
        rw [← em] at hz2
        exact hR _ _ ⟨⟨_, rfl, rfl⟩, hz2⟩
      · have e : ¬ p 2 ≤ v := e
        rw [c1, hv] at e
        have e : ¬ P 2 ≤ _ := fun z => e (nI_le z (by split <;> omega))
        refine And.intro (vp_in_iff.mpr (by decide)) ?_
        have em : p 2 = nI (mxN P) := by
          rw [c1]
          congr 1
          unfold mxN
          by_cases q1 : P 1 < P 0
          · rw [if_pos q1] at e
            rw [if_pos (show P 1 < P 2 by omega), if_pos (by omega)]
          · rw [if_neg q1] at e
            rw [if_pos (show P 1 < P 2 by omega), if_pos (by omega)]
        rw [← em] at hz2
        exact hR _ _ ⟨⟨_, rfl, rfl⟩, hz2⟩
    refine z_Run_of z_tk162 [(98, [0, 4])] 60 (fun C K R hC hK hR => ?_)
    refine And.intro (fun q => ?_) (fun q => absurd (by decide) q)
    refine And.intro (vp_in_iff.mpr (by decide)) ?_
    refine And.intro (vp_in_iff.mpr (by decide)) ?_
    refine And.intro (fun e => ?_) (fun e => ?_)
    · have e : p 0 ≤ p 1 := e
      rw [a1, b1] at e
      have e := (nI_leI (by omega) (by omega)).mp e
      refine And.intro (vp_in_iff.mpr (by decide)) ?_
      refine hK _ _ _ _ (tail _ ?_)
      rw [if_neg (by omega)]
      exact b1
    · have e : ¬ p 0 ≤ p 1 := e
      rw [a1, b1] at e
      have e : ¬ P 0 ≤ P 1 := fun z => e (nI_le z (by omega))
      refine And.intro (vp_in_iff.mpr (by decide)) ?_
      refine hK _ _ _ _ (tail _ ?_)
      rw [if_pos (by omega)]
      exact a1
  | succ m ih =>
    intro w p P hw h1 hp hz
    refine z_Run_of z_tk162 [(26, [0, 1, 2, 3, 4])] 60 (fun C K R hC hK hR => ?_)
    refine And.intro (fun q => absurd q (show ¬ (60 : Int32) < nI w from nI_nlt (a := 60) (b := w) (by omega) (by omega))) (fun q => ?_)
    conv => whnf
    refine hC _ _ _ _ (s_M_fits (S := z_w S 70 p) hD hg hg10 (fun r hr => ?_))
    refine And.intro (fun e => ?_) (fun e => ?_)
    · have hno := zb_f hr e
      have := ih (w + 1) p P (by omega) (by omega) (pR_up hp) (fun p' => by
        have := hz p'
        rw [gpN, gpS, if_neg hno] at this
        exact this)
      rw [nI_succ] at this
      exact hK _ _ _ _ this
    · have hyes := zb_t hr e
      conv => whnf
      refine hC _ _ _ _ (s_M_downWith (S := z_w S 70 p) hD (fun r2 hr2 => ?_))
      have hr2 : r2 = nI (sdN (nI w * armF (D.1 2) y + nI b * armF (D.1 2) x + ownF (D.1 1) (D.1 2))) := by
        rw [hr2, ← sdN_eq]
        unfold gwF
        rw [if_neg hx]
      have hlt := sdN_lt (nI w * armF (D.1 2) y + nI b * armF (D.1 2) x + ownF (D.1 1) (D.1 2))
      have hcr : r2.toNatClampNeg = sdN (nI w * armF (D.1 2) y + nI b * armF (D.1 2) x + ownF (D.1 1) (D.1 2)) := by rw [hr2]; exact nI_clamp (by omega)
      have hir : vp_in r2 3 := by rw [hr2]; exact vp_in_nI hlt (by omega)
      refine And.intro hir (And.intro hir ?_)
      have := ih (w + 1) (upd p r2.toNatClampNeg (p r2.toNatClampNeg + 1)) _ (by omega) (by omega) (by rw [hcr]; exact pR_st hp hlt) (fun p' => by
        have := hz p'
        rw [gpN, gpS, if_pos hyes] at this
        exact this)
      rw [nI_succ] at this
      exact hK _ _ _ _ this
set_option maxRecDepth 20000 in
theorem s_M_greatestPart {b : Nat} {p : Nat → Int32} (hD : z_Rl (S.2 61) D) (hg : D.1 4 = nI g) (hg10 : g ≤ 10) (hx : ¬ x = 0) (hz : ∀ p', Z (some (.inl (nI (grF D g x y b)))) (z_H (z_w S 70 p'))) : z_EvM (d + 4) 73 162 [z_p 59, .inl (nI b), .inl x, .inl y] (z_H (z_w S 70 p)) Z := by
  refine z_go (c := 8) (t := z_t162) rfl rfl rfl z_tk162 [(26, [0, 1, 2, 3, 4])] 60 (fun C K R hC hK hR => ?_)
  refine And.intro (fun q => absurd q (by decide)) (fun _ => ?_)
  refine And.intro (vp_in_iff.mpr (by decide)) ?_
  refine And.intro (fun q => absurd q (by decide)) (fun _ => ?_)
  refine And.intro (vp_in_iff.mpr (by decide)) ?_
  refine And.intro (fun q => absurd q (by decide)) (fun _ => ?_)
  refine And.intro (vp_in_iff.mpr (by decide)) ?_
  refine And.intro (fun _ => ?_) (fun q => absurd (by decide) q)
  have := l_M_greatestPart (d := d) (S := S) (Z := Z) (x := x) (y := y) (b := b) hD hg hg10 hx 60 1 (upd (upd (upd p 0 0) 1 0) 2 0) (fun _ => 0) (by omega) (by omega) (fun k hk => by
    rcases k with _ | _ | _ | k
    · exact ⟨rfl, Nat.zero_le 1⟩
    · exact ⟨rfl, Nat.zero_le 1⟩
    · exact ⟨rfl, Nat.zero_le 1⟩
    · omega) hz
  exact hK _ _ _ _ this
end
