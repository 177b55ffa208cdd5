/-! next: the reference's loop; the call -/
theorem mxN_0 {p : Nat → Nat} : mxN p = 0 ↔ p 0 + p 1 + p 2 = 0 := by
  unfold mxN
  split <;> split at * <;> omega
theorem grF_0 {D : z_S} {g : Nat} {x y : Int32} {b : Nat} : grF D g x y b = 0 ↔ cN (goD D g) 60 1 = 0 := by
  unfold grF
  rw [mxN_0, gpN_sum (fun v => sdN_lt _)]
  omega
theorem mxN_le {p : Nat → Nat} : mxN p ≤ p 0 + p 1 + p 2 := by
  unfold mxN
  split <;> split at * <;> omega
theorem grF_le (D : z_S) (g : Nat) (x y : Int32) (b : Nat) : grF D g x y b ≤ 60 := by
  unfold grF
  refine Nat.le_trans mxN_le ?_
  rw [gpN_sum (fun v => sdN_lt _)]
  have := cN_le (goD D g) 60 1
  omega
section
variable {d g : Nat} {S D : z_S} {Z : z_Zt} {x y : Int32}
set_option maxRecDepth 20000 in
theorem l_M_next (hD : z_Rl (S.2 61) D) (hg : D.1 4 = nI g) (hg10 : g ≤ 10) (hx : ¬ x = 0) (h0 : ¬ cN (goD D g) 60 1 = 0) : ∀ m b be le le' p, b + m = 100 → ((be = -9 ∧ le' = 2147483647) ∨ (¬ be < 0 ∧ le' = le)) → (∀ p', Z (some (.inl (bbF (grF D g x y) m b be le'))) (z_H (z_w S 70 p'))) → z_Run (d + 5) 73 (z_own 8) z_m163.2.1 z_m163.2.2.1 none (fun v h' => z_nar z_m163.2.2.2.1 v ∧ Z v h') 36 [(0, z_p 59), (1, .inl x), (2, .inl y), (3, .inl be), (4, .inl le), (5, .inl (nI b))] [] (z_H (z_w S 70 p)) := by
  intro m
  induction m with
  | zero =>
    intro b be le le' p hb hJ hz
    have hb : b = 100 := by omega
    subst hb
    refine z_Run_of z_tk163 [] 60 (fun C K R hC hK hR => ?_)
    refine And.intro (fun q => ?_) (fun q => absurd (by decide) q)
    exact hR _ _ ⟨⟨_, rfl, rfl⟩, hz p⟩
  | succ m ih =>
    intro b be le le' p hb hJ hz
    have h60 := grF_le D g x y b
    have hn0 : ¬ grF D g x y b = 0 := fun z => h0 (grF_0.mp z)
    refine z_Run_of z_tk163 [(36, [0, 1, 2, 3, 4, 5])] 60 (fun C K R hC hK hR => ?_)
    refine And.intro (fun q => absurd q (show ¬ (99 : Int32) < nI b from nI_nlt (a := 99) (b := b) (by omega) (by omega))) (fun q => ?_)
    conv => whnf
    refine hC _ _ _ _ (s_M_greatestPart hD hg hg10 hx (fun p' => ?_))
    refine And.intro (fun _ => ?_) (fun e => absurd e (nI_ne0 (by omega) (by omega)))
    have hb0 : ¬ nI b < 0 := nI_pos (by omega)
    have take : nI (grF D g x y b) < le' → z_Run (d + 5) 73 (z_own 8) z_m163.2.1 z_m163.2.2.1 none (fun v h' => z_nar z_m163.2.2.2.1 v ∧ Z v h') 36 [(0, z_p 59), (1, .inl x), (2, .inl y), (3, .inl (nI b)), (4, .inl (nI (grF D g x y b))), (5, .inl (nI b + 1))] [] (z_H (z_w S 70 p')) := by
      intro h
      have := ih (b + 1) (nI b) (nI (grF D g x y b)) (nI (grF D g x y b)) p' (by omega) (Or.inr ⟨hb0, rfl⟩) (fun p2 => by
        have := hz p2
        rw [bbF, if_pos h] at this
        exact this)
      rw [nI_succ] at this
      exact this
    refine And.intro (fun e => ?_) (fun e => ?_)
    · have hJ := hJ.resolve_right (fun z => z.1 e)
      refine hK _ _ _ _ (take ?_)
      rw [hJ.2]
      exact nI_lt (a := grF D g x y b) (b := 2147483647) (by omega) (by omega)
    · have hJ : le' = le := by
        rcases hJ with ⟨h1, -⟩ | ⟨-, h1⟩
        · rw [h1] at e
          exact absurd (show (-9 : Int32) < 0 by decide) e
        · exact h1
      refine And.intro (fun e2 => ?_) (fun e2 => ?_)
      · exact hK _ _ _ _ (take (by rw [hJ]; exact e2))
      · have := ih (b + 1) be le le' p' (by omega) (Or.inr ⟨e, hJ⟩) (fun p2 => by
          have := hz p2
          rw [bbF, if_neg (by rw [hJ]; exact e2)] at this
          exact this)
        rw [nI_succ] at this
        exact hK _ _ _ _ this
set_option maxRecDepth 20000 in
theorem s_M_nextOk (hD : z_Rl (S.2 61) D) (hg : D.1 4 = nI g) (hg10 : g ≤ 10) (hx : sP (D.1 0) x) (hy : sP (D.1 0) y) (hne : ¬ x = y) (hz : ∀ p', Z (some (.inl (if cN (goD D g) 60 1 = 0 then -9 else bbF (grF D g x y) 99 1 (-9) 2147483647))) (z_H (z_w S 70 p'))) : z_EvM (d + 5) 73 163 [z_p 59, .inl x, .inl y] (z_H S) Z := by
  refine z_go (c := 8) (t := z_t163) rfl rfl rfl z_tk163 [(36, [0, 1, 2, 3, 4, 5])] 60 (fun C K R hC hK hR => ?_)
  conv => whnf
  refine hC _ _ _ _ (s_M_isSeatP hD (fun r1 hr1 => ?_))
  refine And.intro (fun e => absurd hx (zb_f hr1 e)) (fun _ => ?_)
  conv => whnf
  refine hC _ _ _ _ (s_M_isSeatP hD (fun r2 hr2 => ?_))
  refine And.intro (fun e => absurd hy (zb_f hr2 e)) (fun _ => ?_)
  refine And.intro (fun _ => ?_) (fun e => absurd e hne)
  refine hK _ _ _ _ ?_
  by_cases h0 : cN (goD D g) 60 1 = 0
  · refine z_Run_of z_tk163 [] 60 (fun C K R hC hK hR => ?_)
    refine And.intro (fun q => absurd q (by decide)) (fun q => ?_)
    conv => whnf
    refine hC _ _ _ _ (s_M_greatestPart (S := S) (b := 1) (p := S.2 70) hD hg hg10 hx.1 (fun p' => ?_))
    have hg0 : grF D g x y 1 = 0 := grF_0.mpr h0
    refine And.intro (fun e => absurd (show nI (grF D g x y 1) = 0 by rw [hg0]; rfl) e) (fun _ => ?_)
    have hz2 := hz p'
    rw [if_pos h0] at hz2
    exact hR _ _ ⟨⟨_, rfl, rfl⟩, hz2⟩
  · have := l_M_next (d := d) (S := S) (Z := Z) (x := x) (y := y) hD hg hg10 hx.1 h0 99 1 (-9) 0 2147483647 (S.2 70) (by omega) (Or.inl ⟨rfl, rfl⟩) (fun p' => by
      have hz2 := hz p'
      rw [if_neg h0] at hz2
      exact hz2)
    exact this
set_option maxRecDepth 20000 in
theorem s_M_nextNo (hD : z_Rl (S.2 61) D) (hno : ¬ (sP (D.1 0) x ∧ sP (D.1 0) y ∧ ¬ x = y)) (hz : Z (some (.inl (-1))) (z_H (z_rm2 S 1))) : z_EvM (d + 5) 73 163 [z_p 59, .inl x, .inl y] (z_H S) Z := by
  have bad : z_Run (d + 5) 73 (z_own 8) z_m163.2.1 z_m163.2.2.1 none (fun v h' => z_nar z_m163.2.2.2.1 v ∧ Z v h') 21 [(0, z_p 59)] [] (z_H S) := by
    refine z_Run_of z_tk163 [] 60 (fun C K R hC hK hR => ?_)
    conv => whnf
    refine hC _ _ _ _ (s_M_refuse (k := 1) (by omega) rfl ?_)
    exact hR _ _ ⟨⟨_, rfl, rfl⟩, hz⟩
  refine z_go (c := 8) (t := z_t163) rfl rfl rfl z_tk163 [(21, [0])] 60 (fun C K R hC hK hR => ?_)
  conv => whnf
  refine hC _ _ _ _ (s_M_isSeatP hD (fun r1 hr1 => ?_))
  refine And.intro (fun e => hK _ _ _ _ bad) (fun e1 => ?_)
  conv => whnf
  refine hC _ _ _ _ (s_M_isSeatP hD (fun r2 hr2 => ?_))
  refine And.intro (fun e => hK _ _ _ _ bad) (fun e2 => ?_)
  refine And.intro (fun e => absurd ⟨zb_t hr1 e1, zb_t hr2 e2, e⟩ hno) (fun e => hK _ _ _ _ bad)
end
theorem Inv_70 {S : z_S} (hI : Inv S) (f f' : Nat → Int32) : Inv (z_w (z_w S 25 f) 70 f') := by
  obtain ⟨n, g, u, t, w, hok, hRl, him, htx, hrw, hrf, hpl⟩ := hI
  exact ⟨n, g, u, t, w, hok, hRl, him, htx, hrw, hrf, hpl⟩
theorem Inv_70' {S : z_S} (hI : Inv S) (f' : Nat → Int32) : Inv (z_w S 70 f') := by
  obtain ⟨n, g, u, t, w, hok, hRl, him, htx, hrw, hrf, hpl⟩ := hI
  exact ⟨n, g, u, t, w, hok, hRl, him, htx, hrw, hrf, hpl⟩
set_option maxRecDepth 20000 in
theorem op_next (x y : Int32) : z_op 81 163 [.inl x, .inl y] := by
  intro S hI Z hz
  obtain ⟨n, g, u, t, w, hok, hRl, him, htx, hrw, hrf, hpl⟩ := id hI
  obtain ⟨hn, ⟨hg10, hg⟩, hu, hL, hO, hN, hf, hwe, hdi, hgu⟩ := id hok
  have bad : ¬ (sP (S.1 0) x ∧ sP (S.1 0) y ∧ ¬ x = y) → z_Run 600 73 (z_own 7) z_m81.2.1 z_m81.2.2.1 none (fun v h' => z_nar z_m81.2.2.2.1 v ∧ Z v h') 27 [(0, z_p 0)] [] (z_H S) := by
    intro h
    refine z_Run_of z_tk81 [] 60 (fun C K R hC hK hR => ?_)
    conv => whnf
    refine hC _ _ _ _ (s_X_refuse 1 (by omega) rfl ?_)
    exact hR _ _ ⟨⟨_, rfl, rfl⟩, hz _ _ (fun Z2 hz2 => s_M_nextNo (S := z_rx S 1) (D := dN S) hRl h (hz2 _ _ rfl (Inv_ref hI (by omega))))⟩
  refine z_go (c := 7) (t := z_t81) rfl rfl rfl z_tk81 [(27, [0])] 60 (fun C K R hC hK hR => ?_)
  conv => whnf
  refine hC _ _ _ _ (s_B0_hasSeatP (fun r1 hr1 => ?_))
  refine And.intro (fun e => hK _ _ _ _ (bad (fun z => zb_f hr1 e z.1))) (fun e1 => ?_)
  conv => whnf
  refine hC _ _ _ _ (s_B0_hasSeatP (fun r2 hr2 => ?_))
  refine And.intro (fun e => hK _ _ _ _ (bad (fun z => zb_f hr2 e z.2.1))) (fun e2 => ?_)
  refine And.intro (fun e3 => ?_) (fun e => hK _ _ _ _ (bad (fun z => z.2.2 e)))
  have hx := zb_t hr1 e1
  have hy := zb_t hr2 e2
  conv => whnf
  refine hC _ _ _ _ (s_G_look hg hg10 (fun f hf => ?_))
  have hI2 : Inv (loS S (foA (dN S) g) f) := Inv_lo hI _ _
  have ec := foA_cN (dN S) g
  have hle := cN_le (goD (dN S) g) 60 1
  refine And.intro (fun e => ?_) (fun e => ?_)
  · have e : ¬ (foA (dN S) g).1 = 0 := e
    have h0 : ¬ cN (goD (dN S) g) 60 1 = 0 := fun z => e (by rw [ec, z]; rfl)
    conv => whnf
    refine hC _ _ _ _ (s_G_bestBucket (S := loS S (foA (dN S) g) f) (g := g) hf (fun p' => ?_))
    refine hR _ _ ⟨_, rfl, rfl⟩ (hz _ (z_w (loS S (foA (dN S) g) f) 25 p') (fun Z2 hz2 => ?_))
    exact s_M_nextOk (S := z_w (loS S (foA (dN S) g) f) 25 p') (D := dN S) hRl hg hg10 hx hy e3 (fun p2 => hz2 _ _ (by rw [if_neg h0]; rfl) (Inv_70 hI2 _ _))
  · have e : (foA (dN S) g).1 = 0 := e
    have h0 : cN (goD (dN S) g) 60 1 = 0 := by
      rw [ec] at e
      exact (nI_eq (b := 0) (by omega) (by omega)).mp e
    refine hR _ _ ⟨_, rfl, rfl⟩ (hz _ (loS S (foA (dN S) g) f) (fun Z2 hz2 => ?_))
    exact s_M_nextOk (S := loS S (foA (dN S) g) f) (D := dN S) hRl hg hg10 hx hy e3 (fun p2 => hz2 _ _ (by rw [if_pos h0]) (Inv_70' hI2 _))
