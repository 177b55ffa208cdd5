/-! a statement comes: the reference's -/
def dR (D : z_S) (j k : Nat) (x : Int32) : z_S := (D.1, fun r => if r = j then upd (D.2 j) k x else D.2 r)
theorem dR_Rl {s : Nat → Int32} {D : z_S} (h : z_Rl s D) {j k : Nat} (hk : k < 5) (hj : j < 4) (x : Int32) : z_Rl (upd s (6 + 4 * k + j) x) (dR D j k x) := Rl_kid h k j hk hj x (if_pos rfl) (fun _ _ => rfl) (fun r _ hne => if_neg hne)
theorem dS1_Rl {s : Nat → Int32} {D : z_S} (h : z_Rl s D) (a b : Int32) : z_Rl (upd (upd s 0 a) 1 b) (dS1 D a b) := by
  have h1 : z_Rl (upd s 0 a) (fun j => if j = 0 then a else D.1 j, D.2) := Rl_sc h 0 (by omega) a rfl (fun i _ hne => if_neg hne) (fun _ _ => rfl)
  refine Rl_sc h1 1 (by omega) b rfl (fun i _ hne => ?_) (fun _ _ => rfl)
  show (if i = 0 then a else if i = 1 then b else D.1 i) = (if i = 0 then a else D.1 i)
  rw [if_neg hne]
theorem dS4_Rl {s : Nat → Int32} {D : z_S} (h : z_Rl s D) {k : Nat} (hk : k < 5) (x : Int32) : z_Rl (upd s (6 + 4 * k + 3) x) (dS4 D k x) := dF_up (dF_id h) hk x
theorem dS3_Rl {s : Nat → Int32} {D : z_S} (h : z_Rl s D) {n : Nat} (hn : n < 5) (a b c : Int32) : z_Rl (upd (upd (upd (upd (upd s (6 + 4 * n + 0) a) (6 + 4 * n + 1) b) (6 + 4 * n + 2) c) (6 + 4 * n + 3) 0) 3 (nI (n + 1))) (dS3 D n a b c) := by
  have h4 := dR_Rl (dR_Rl (dR_Rl (dR_Rl h hn (j := 0) (by omega) a) hn (j := 1) (by omega) b) hn (j := 2) (by omega) c) hn (j := 3) (by omega) 0
  refine Rl_sc h4 3 (by omega) (nI (n + 1)) rfl (fun i _ hne => if_neg hne) (fun r hr => ?_)
  rcases r with _ | _ | _ | _ | r
  · rfl
  · rfl
  · rfl
  · rfl
  · rfl
def rS' (S : z_S) (e : Nat → Int32) (pl : Int32) (f : Nat → Int32) : z_S := z_w (z_w (z_u S 41 pl) 65 f) 63 e
def cmP (Z : z_Zt) (S : z_S) (pl : Int32) (f : Nat → Int32) : Option (z_S × Nat) → Prop
  | none => ∀ e, Z (some (.inl 0)) (z_H (rS' S e pl f))
  | some r => ∀ e, z_Rl e r.1 → Z (some (.inl 1)) (z_H (rS' S e pl f))
section
variable {d n : Nat} {S D : z_S} {Z : z_Zt} {pl ve a b c x : Int32} {e f : Nat → Int32}
set_option maxRecDepth 20000 in
theorem s_M_readSeat {k : Nat} (hD : z_Rl e D) (hk : k < 5) (hz : Z (some (.inl (D.2 3 k))) (z_H (rS' S e pl f))) : z_EvM (d + 1) 73 128 [z_p 59, .inl (nI k)] (z_H (rS' S e pl f)) Z := by
  have ei : ((6 : Int32) + 4 * nI k + 3).toNatClampNeg = 6 + 4 * k + 3 := kidx (j := 3) hk (by omega)
  refine z_go (c := 8) (t := z_t128) rfl rfl rfl z_tk128 [] 100 (fun C K R hC hK hR => ?_)
  refine And.intro (kidv (j := 3) hk (by omega)) ?_
  refine hR _ _ ⟨_, rfl, rfl⟩ ?_
  show Z (some (.inl (e ((6 : Int32) + 4 * nI k + 3).toNatClampNeg))) (z_H (rS' S e pl f))
  rw [ei, hD.2.1 k hk 3 (by omega)]
  exact hz
set_option maxRecDepth 20000 in
theorem l_M_comesL (hD : z_Rl e D) (hc : D.1 3 = nI n) (hn : n ≤ 5) (hz0 : farB n (D.2 3) a = true → Z (some (.inl 0)) (z_H (rS' S e pl f))) (hz1 : ¬ farB n (D.2 3) a = true → Z (some (.inl 1)) (z_H (rS' S (upd (upd e 0 a) 1 (f 1)) pl f))) : ∀ m k, k + m = n → (∀ i, i < k → ¬ a < absF (D.2 3 i)) → z_Run (d + 2) 73 (z_own 8) z_m129.2.1 z_m129.2.2.1 none (fun v h' => z_nar z_m129.2.2.2.1 v ∧ Z v h') 67 [(0, z_p 59), (2, .inl a), (3, .inl (nI k))] [] (z_H (rS' S e pl f)) := by
  have hs3 : e 3 = nI n := (hD.1 3 (by omega)).trans hc
  intro m
  induction m with
  | zero =>
    intro k hk hall
    have hk : k = n := by omega
    subst hk
    refine z_Run_of z_tk129 [] 60 (fun C K R hC hK hR => ?_)
    refine And.intro (vp_in_iff.mpr (by decide)) ?_
    refine And.intro (fun _ => ?_) (fun q => absurd (show e 3 ≤ nI k by rw [hs3]; exact nI_le (by omega) (by omega)) q)
    refine And.intro (vp_in_iff.mpr (by decide)) ?_
    refine And.intro (vp_in_iff.mpr (by decide)) ?_
    refine And.intro (vp_in_iff.mpr (by decide)) ?_
    exact hR _ _ ⟨⟨_, rfl, rfl⟩, hz1 (fun z => by obtain ⟨i, hi, w⟩ := far_iff.mp z; exact hall i hi w)⟩
  | succ m ih =>
    intro k hk hall
    refine z_Run_of z_tk129 [(67, [0, 2, 3])] 60 (fun C K R hC hK hR => ?_)
    refine And.intro (vp_in_iff.mpr (by decide)) ?_
    refine And.intro (fun q => absurd (show e 3 ≤ nI k from q) (by rw [hs3]; exact nI_ge (by omega) (by omega))) (fun q => ?_)
    conv => whnf
    refine hC _ _ _ _ (s_M_readSeat hD (by omega) ?_)
    conv => whnf
    refine hC _ _ _ _ (s_M_amount (h := z_H (rS' S e pl f)) (fun r hr => ?_))
    have hr : r = absF (D.2 3 k) := hr
    subst hr
    refine And.intro (fun w => ?_) (fun w => ?_)
    · have := ih (k + 1) (by omega) (fun i hi => by
        by_cases q2 : i = k
        · subst q2; exact nlt_le w
        · exact hall i (by omega))
      rw [nI_succ] at this
      exact hK _ _ _ _ this
    · exact hR _ _ ⟨⟨_, rfl, rfl⟩, hz0 (far_iff.mpr ⟨k, by omega, lt_nge w⟩)⟩
set_option maxRecDepth 20000 in
theorem l_M_comesS {j : Nat} (hD : z_Rl e D) (hc : D.1 3 = nI n) (hn : n ≤ 5) (hj : j < n) (hz0 : takB n (D.2 3) x (nI j) = true → Z (some (.inl 0)) (z_H (rS' S e pl f))) (hz1 : ¬ takB n (D.2 3) x (nI j) = true → Z (some (.inl 1)) (z_H (rS' S (upd e (6 + 4 * j + 3) x) pl f))) : ∀ m k, k + m = n → (∀ i, i < k → ¬ (¬ nI i = nI j ∧ D.2 3 i = x)) → z_Run (d + 2) 73 (z_own 8) z_m129.2.1 z_m129.2.2.1 none (fun v h' => z_nar z_m129.2.2.2.1 v ∧ Z v h') 287 [(0, z_p 59), (2, .inl (nI j)), (3, .inl x), (4, .inl (nI k))] [] (z_H (rS' S e pl f)) := by
  have hs3 : e 3 = nI n := (hD.1 3 (by omega)).trans hc
  intro m
  induction m with
  | zero =>
    intro k hk hall
    have hk : k = n := by omega
    subst hk
    have ei : ((6 : Int32) + 4 * nI j + 3).toNatClampNeg = 6 + 4 * j + 3 := kidx (j := 3) (by omega) (by omega)
    refine z_Run_of z_tk129 [] 60 (fun C K R hC hK hR => ?_)
    refine And.intro (vp_in_iff.mpr (by decide)) ?_
    refine And.intro (fun _ => ?_) (fun q => absurd (show e 3 ≤ nI k by rw [hs3]; exact nI_le (by omega) (by omega)) q)
    refine And.intro (kidv (j := 3) (by omega) (by omega)) ?_
    have h := hz1 (fun z => by obtain ⟨i, hi, w⟩ := tak_iff.mp z; exact hall i hi w)
    rw [← ei] at h
    exact hR _ _ ⟨⟨_, rfl, rfl⟩, h⟩
  | succ m ih =>
    intro k hk hall
    have nxt : ¬ (¬ nI k = nI j ∧ D.2 3 k = x) → z_Run (d + 2) 73 (z_own 8) z_m129.2.1 z_m129.2.2.1 none (fun v h' => z_nar z_m129.2.2.2.1 v ∧ Z v h') 287 [(0, z_p 59), (2, .inl (nI j)), (3, .inl x), (4, .inl (nI k + 1))] [] (z_H (rS' S e pl f)) := by
      intro h
      have := ih (k + 1) (by omega) (fun i hi => by
        by_cases q2 : i = k
        · subst q2; exact h
        · exact hall i (by omega))
      rw [nI_succ] at this
      exact this
    refine z_Run_of z_tk129 [(287, [0, 2, 3, 4])] 60 (fun C K R hC hK hR => ?_)
    refine And.intro (vp_in_iff.mpr (by decide)) ?_
    refine And.intro (fun q => absurd (show e 3 ≤ nI k from q) (by rw [hs3]; exact nI_ge (by omega) (by omega))) (fun q => ?_)
    refine And.intro (fun w => hK _ _ _ _ (nxt (fun z => z.1 w))) (fun w => ?_)
    conv => whnf
    refine hC _ _ _ _ (s_M_readSeat hD (by omega) ?_)
    refine And.intro (fun w2 => hK _ _ _ _ (nxt (fun z => w2 z.2))) (fun w2 => ?_)
    exact hR _ _ ⟨⟨_, rfl, rfl⟩, hz0 (tak_iff.mpr ⟨k, by omega, w, w2⟩)⟩
theorem sP_bc {L b c : Int32} (hb : b = -1 ∨ b = 1) (h0 : 0 ≤ c) (h9 : c ≤ 9) (hL1 : 1 ≤ L) (hL6 : L ≤ 6) : sP L (b * c) ↔ ¬ (c < 1 ∨ L < c) := by
  rcases hb with rfl | rfl
  · have e : (-1 : Int32) * c = -c := by grind
    rw [e]
    unfold sP
    constructor
    · intro h z
      obtain ⟨h1, h2, h3⟩ := h
      rcases z with z | z <;> grind
    · intro h
      have h1 : ¬ c < 1 := fun z => h (Or.inl z)
      have h2 : ¬ L < c := fun z => h (Or.inr z)
      refine ⟨?_, ?_, ?_⟩ <;> grind
  · have e : (1 : Int32) * c = c := by grind
    rw [e]
    unfold sP
    constructor
    · intro h z
      obtain ⟨h1, h2, h3⟩ := h
      rcases z with z | z <;> grind
    · intro h
      have h1 : ¬ c < 1 := fun z => h (Or.inl z)
      have h2 : ¬ L < c := fun z => h (Or.inr z)
      refine ⟨?_, ?_, ?_⟩ <;> grind
set_option maxRecDepth 20000 in
theorem s_M_comes (hD : z_Rl e D) (hc : D.1 3 = nI n) (hn : n ≤ 5) (hL : 1 ≤ D.1 0 ∧ D.1 0 ≤ 6) (hv : ve = 98 ∨ ve = 99 ∨ ve = 115 ∨ ve = 116 ∨ ve = 111) (hf : tdR ve f a b c) (ha : ¬ ve = 99 → 0 ≤ a ∧ a ≤ 9) (hbc : ve = 115 → (b = -1 ∨ b = 1) ∧ 0 ≤ c ∧ c ≤ 9) (hz : cmP Z S pl f (tkF D n ve a b c)) : z_EvM (d + 3) 73 129 [z_p 59, .inl ve] (z_H (rS' S e pl f)) Z := by
  have hs3 : e 3 = nI n := (hD.1 3 (by omega)).trans hc
  have hs0 : e 0 = D.1 0 := hD.1 0 (by omega)
  have iN := isN_iff (c := a) (n := n) (by omega)
  obtain ⟨f0, f1, f2⟩ := hf
  have main : z_Run (d + 3) 73 (z_own 8) z_m129.2.1 z_m129.2.2.1 none (fun v h' => z_nar z_m129.2.2.2.1 v ∧ Z v h') 7 [(0, z_p 59), (1, .inl ve), (2, .inl a)] [] (z_H (rS' S e pl f)) := by
    unfold tkF at hz
    by_cases h98 : ve = 98
    · rw [if_pos h98] at hz
      have f1 := f1 (Or.inl h98)
      have no : (a < 1 ∨ 6 < a ∨ farB n (D.2 3) a = true) → z_Run (d + 3) 73 (z_own 8) z_m129.2.1 z_m129.2.2.1 none (fun v h' => z_nar z_m129.2.2.2.1 v ∧ Z v h') 63 [(0, z_p 59)] [] (z_H (rS' S e pl f)) := by
        intro h
        rw [if_pos h] at hz
        refine z_Run_of z_tk129 [] 60 (fun C K R hC hK hR => ?_)
        exact hR _ _ ⟨⟨_, rfl, rfl⟩, hz e⟩
      refine z_Run_of z_tk129 [(63, [0]), (67, [0, 2, 3])] 60 (fun C K R hC hK hR => ?_)
      refine And.intro (fun _ => ?_) (fun w => absurd h98 w)
      refine And.intro (fun w => hK _ _ _ _ (no (Or.inl w))) (fun w => And.intro (fun w2 => ?_) (fun w2 => hK _ _ _ _ (no (Or.inr (Or.inl (lt_nge w2))))))
      refine hK _ _ _ _ (l_M_comesL (d := d + 1) hD hc hn (fun h => ?_) (fun h => ?_) n 0 (by omega) (fun i hi => by omega))
      · rw [if_pos (Or.inr (Or.inr h))] at hz
        exact hz e
      · rw [if_neg (fun z => z.elim w (fun z => z.elim (nlt_le w2) h))] at hz
        refine hz _ ?_
        rw [f1]
        exact dS1_Rl hD a b
    · rw [if_neg h98] at hz
      by_cases h99 : ve = 99
      · rw [if_neg (by rw [h99]; decide), if_pos h99] at hz
        have f1 := f1 (Or.inr (Or.inl h99))
        have f2 := f2 (Or.inl h99)
        have no : (b < 1 ∨ 60 < b ∨ n = 5) → z_Run (d + 3) 73 (z_own 8) z_m129.2.1 z_m129.2.2.1 none (fun v h' => z_nar z_m129.2.2.2.1 v ∧ Z v h') 167 [(0, z_p 59)] [] (z_H (rS' S e pl f)) := by
          intro h
          rw [if_pos h] at hz
          refine z_Run_of z_tk129 [] 60 (fun C K R hC hK hR => ?_)
          exact hR _ _ ⟨⟨_, rfl, rfl⟩, hz e⟩
        refine z_Run_of z_tk129 [(167, [0]), (169, [0])] 60 (fun C K R hC hK hR => ?_)
        refine And.intro (fun w => absurd w h98) (fun _ => And.intro (fun _ => ?_) (fun w => absurd h99 w))
        refine And.intro (vp_in_iff.mpr (by decide)) ?_
        refine And.intro (fun w => hK _ _ _ _ (no (Or.inl (by rw [← f1]; exact w)))) (fun w => ?_)
        have w : ¬ f 1 < 1 := w
        rw [f1] at w
        refine And.intro (vp_in_iff.mpr (by decide)) ?_
        refine And.intro (fun w2 => hK _ _ _ _ (no (Or.inr (Or.inl (by rw [← f1]; exact w2))))) (fun w2 => ?_)
        have w2 : ¬ 60 < f 1 := w2
        rw [f1] at w2
        refine And.intro (vp_in_iff.mpr (by decide)) ?_
        refine And.intro (fun w3 => ?_) (fun w3 => ?_)
        · have w3 : ¬ e 3 = 5 := w3
          have hn5 : ¬ n = 5 := fun z => w3 (by rw [hs3, z]; rfl)
          rw [if_neg (fun z => z.elim w (fun z => z.elim w2 hn5))] at hz
          refine hK _ _ _ _ ?_
          have ex : (6 : Int32) + 4 * e 3 = 6 + 4 * nI n := by rw [hs3]
          have i0 := kidx (k := n) (j := 0) (by omega) (by omega)
          have i1 := kidx (k := n) (j := 1) (by omega) (by omega)
          have i2 := kidx (k := n) (j := 2) (by omega) (by omega)
          have i3 := kidx (k := n) (j := 3) (by omega) (by omega)
          refine z_Run_of z_tk129 [] 100 (fun C K R hC hK hR => ?_)
          refine And.intro (vp_in_iff.mpr (by decide)) ?_
          refine And.intro (fun q => absurd q (by decide)) (fun _ => ?_)
          refine And.intro (vp_in_iff.mpr (by decide)) ?_
          refine And.intro (show vp_in (6 + 4 * e 3 + 0) 90 by rw [ex]; exact kidv (j := 0) (by omega) (by omega)) ?_
          refine And.intro (fun q => absurd q (by decide)) (fun _ => ?_)
          refine And.intro (vp_in_iff.mpr (by decide)) ?_
          refine And.intro (show vp_in (6 + 4 * e 3 + 1) 90 by rw [ex]; exact kidv (j := 1) (by omega) (by omega)) ?_
          refine And.intro (fun q => absurd q (by decide)) (fun _ => ?_)
          refine And.intro (vp_in_iff.mpr (by decide)) ?_
          refine And.intro (show vp_in (6 + 4 * e 3 + 2) 90 by rw [ex]; exact kidv (j := 2) (by omega) (by omega)) ?_
          refine And.intro (fun _ => ?_) (fun q => absurd (by decide) q)
          refine And.intro (show vp_in (6 + 4 * e 3 + 3) 90 by rw [ex]; exact kidv (j := 3) (by omega) (by omega)) ?_
          refine And.intro (vp_in_iff.mpr (by decide)) ?_
          refine And.intro (vp_in_iff.mpr (by decide)) ?_
          refine hR _ _ ⟨⟨_, rfl, rfl⟩, ?_⟩
          have key : ∀ u : Nat → Int32, u = upd (upd (upd (upd e (6 + 4 * e 3 + 0).toNatClampNeg (f 0)) (6 + 4 * e 3 + 1).toNatClampNeg (f 1)) (6 + 4 * e 3 + 2).toNatClampNeg (f 2)) (6 + 4 * e 3 + 3).toNatClampNeg 0 → z_Rl (upd u 3 (u 3 + 1)) (dS3 D n a b c) := by
            intro u hu
            rw [ex, show ((6 : Int32) + 4 * nI n + 0).toNatClampNeg = 6 + 4 * n + 0 from i0, show ((6 : Int32) + 4 * nI n + 1).toNatClampNeg = 6 + 4 * n + 1 from i1, show ((6 : Int32) + 4 * nI n + 2).toNatClampNeg = 6 + 4 * n + 2 from i2, show ((6 : Int32) + 4 * nI n + 3).toNatClampNeg = 6 + 4 * n + 3 from i3, f0, f1, f2] at hu
            have u3 : u 3 + 1 = nI (n + 1) := by rw [hu, pk_un (by omega), pk_un (by omega), pk_un (by omega), pk_un (by omega), hs3, nI_succ]
            rw [u3, hu]
            exact dS3_Rl hD (by omega) a b c
          exact hz _ (key _ rfl)
        · have w3 : e 3 = 5 := w3
          rw [hs3] at w3
          exact hK _ _ _ _ (no (Or.inr (Or.inr ((nI_eq (b := 5) (by omega) (by omega)).mp w3))))
      · have ha := ha h99
        by_cases h115 : ve = 115
        · rw [if_neg (by rw [h115]; decide), if_neg h99, if_pos h115] at hz
          have f1 := f1 (Or.inr (Or.inr h115))
          have f2 := f2 (Or.inr h115)
          obtain ⟨hb, c0, c9⟩ := hbc h115
          have hsp := sP_bc hb c0 c9 hL.1 hL.2
          have no : (¬ (0 ≤ a ∧ a < nI n) ∨ ¬ sP (D.1 0) (b * c)) → z_Run (d + 3) 73 (z_own 8) z_m129.2.1 z_m129.2.2.1 none (fun v h' => z_nar z_m129.2.2.2.1 v ∧ Z v h') 268 [(0, z_p 59)] [] (z_H (rS' S e pl f)) := by
            intro h
            rw [if_pos (h.imp id Or.inl)] at hz
            refine z_Run_of z_tk129 [] 60 (fun C K R hC hK hR => ?_)
            exact hR _ _ ⟨⟨_, rfl, rfl⟩, hz e⟩
          refine z_Run_of z_tk129 [(268, [0]), (287, [0, 2, 3, 4])] 60 (fun C K R hC hK hR => ?_)
          refine And.intro (fun w => absurd w h98) (fun _ => And.intro (fun w => absurd w h99) (fun _ => And.intro (fun _ => ?_) (fun w => absurd h115 w)))
          refine And.intro (vp_in_iff.mpr (by decide)) ?_
          refine And.intro (fun w => hK _ _ _ _ (no (Or.inl (fun z => nlt_le (show nI n ≤ a by rw [← hs3]; exact w) z.2)))) (fun w => ?_)
          have w : ¬ e 3 ≤ a := w
          rw [hs3] at w
          refine And.intro (vp_in_iff.mpr (by decide)) ?_
          refine And.intro (fun w2 => hK _ _ _ _ (no (Or.inr (fun z => hsp.mp z (Or.inl (by rw [← f2]; exact w2)))))) (fun w2 => ?_)
          have w2 : ¬ f 2 < 1 := w2
          rw [f2] at w2
          refine And.intro (vp_in_iff.mpr (by decide)) ?_
          refine And.intro (vp_in_iff.mpr (by decide)) ?_
          refine And.intro (fun w3 => ?_) (fun w3 => hK _ _ _ _ (no (Or.inr (fun z => hsp.mp z (Or.inr (by
            have w3 : ¬ f 2 ≤ e 0 := w3
            rw [f2, hs0] at w3
            exact lt_nge w3))))))
          have w3 : f 2 ≤ e 0 := w3
          rw [f2, hs0] at w3
          obtain ⟨k, hk, ek⟩ := iN.mp ⟨ha.1, lt_nge w⟩
          subst ek
          have sp : sP (D.1 0) (b * c) := hsp.mpr (fun z => z.elim w2 (nlt_le w3))
          refine And.intro (vp_in_iff.mpr (by decide)) ?_
          refine And.intro (vp_in_iff.mpr (by decide)) ?_
          have loop := l_M_comesS (d := d + 1) (S := S) (Z := Z) (pl := pl) (f := f) (x := b * c) hD hc hn hk (fun h => ?_) (fun h => ?_) n 0 (by omega) (fun i hi => by omega)
          · rw [← f1, ← f2] at loop
            exact hK _ _ _ _ loop
          · rw [if_pos (Or.inr (Or.inr h))] at hz
            exact hz e
          · rw [if_neg (fun z => z.elim (fun z => z (iN.mpr ⟨k, hk, rfl⟩)) (fun z => z.elim (fun z => z sp) h)), nI_clamp (by omega)] at hz
            exact hz _ (dS4_Rl hD (by omega) _)
        · by_cases h116 : ve = 116
          · rw [if_pos h116] at hz
            refine z_Run_of z_tk129 [] 60 (fun C K R hC hK hR => ?_)
            refine And.intro (fun w => absurd w h98) (fun _ => And.intro (fun w => absurd w h99) (fun _ => And.intro (fun w => absurd w h115) (fun _ => And.intro (fun _ => ?_) (fun w => absurd h116 w))))
            refine And.intro (vp_in_iff.mpr (by decide)) ?_
            refine And.intro (fun w => ?_) (fun w => ?_)
            · rw [if_pos (by clear hz hR hC hK; grind)] at hz
              exact hR _ _ ⟨⟨_, rfl, rfl⟩, hz (upd e 2 a)⟩
            · rw [if_neg (by clear hz hR hC hK; grind)] at hz
              exact hR _ _ ⟨⟨_, rfl, rfl⟩, hz (upd e 2 a) (dV_Rl hD a)⟩
          · rw [if_neg h116, if_neg h99, if_neg h115] at hz
            refine z_Run_of z_tk129 [] 60 (fun C K R hC hK hR => ?_)
            refine And.intro (fun w => absurd w h98) (fun _ => And.intro (fun w => absurd w h99) (fun _ => And.intro (fun w => absurd w h115) (fun _ => And.intro (fun w => absurd w h116) (fun _ => ?_))))
            refine And.intro (vp_in_iff.mpr (by decide)) ?_
            refine And.intro (fun w => ?_) (fun w => ?_)
            · have w : ¬ nI n ≤ a := by
                have w : a < e 3 := w
                rw [hs3] at w
                exact fun z => nlt_le z w
              obtain ⟨k, hk, ek⟩ := iN.mp ⟨ha.1, lt_nge w⟩
              subst ek
              rw [if_neg (fun z => z (iN.mpr ⟨k, hk, rfl⟩)), nI_clamp (by omega)] at hz
              have ei : ((6 : Int32) + 4 * nI k + 3).toNatClampNeg = 6 + 4 * k + 3 := kidx (j := 3) (by omega) (by omega)
              refine And.intro (kidv (j := 3) (by omega) (by omega)) ?_
              have h := hz _ (dS4_Rl hD (k := k) (by omega) 0)
              rw [← ei] at h
              exact hR _ _ ⟨⟨_, rfl, rfl⟩, h⟩
            · have w : nI n ≤ a := by
                have w : ¬ a < e 3 := w
                rw [hs3] at w
                exact nlt_ge w
              rw [if_pos (fun z => nlt_le w z.2)] at hz
              exact hR _ _ ⟨⟨_, rfl, rfl⟩, hz e⟩
  refine z_go (c := 8) (t := z_t129) rfl rfl rfl z_tk129 [(7, [0, 1, 2])] 60 (fun C K R hC hK hR => ?_)
  refine And.intro (vp_in_iff.mpr (by decide)) ?_
  rw [← f0] at main
  exact hK _ _ _ _ main
end
