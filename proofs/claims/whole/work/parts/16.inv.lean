/-! WHAT HOLDS BETWEEN CALLS -/
def dN (S : z_S) : z_S := (fun j => match j with | 0 => S.1 0 | 1 => S.1 1 | 2 => S.1 2 | 3 => S.1 3 | 4 => S.1 12 | _ => S.1 20, fun r => match r with | 0 => S.2 5 | 1 => S.2 6 | 2 => S.2 7 | 3 => S.2 8 | 4 => S.2 20 | 5 => S.2 21 | 6 => S.2 22 | 7 => S.2 23 | 8 => S.2 34 | 9 => S.2 35 | _ => S.2 36)
def dK (S : z_S) : z_S := (fun j => match j with | 0 => S.1 8 | 1 => S.1 9 | 2 => S.1 10 | 3 => S.1 11 | 4 => S.1 16 | _ => S.1 21, fun r => match r with | 0 => S.2 15 | 1 => S.2 16 | 2 => S.2 17 | 3 => S.2 18 | 4 => S.2 27 | 5 => S.2 28 | 6 => S.2 29 | 7 => S.2 30 | 8 => S.2 38 | 9 => S.2 39 | _ => S.2 40)
/-- the numbers of a board, its goes and guesses are as they must be -/
def z_ok (D : z_S) (n g u : Nat) : Prop := (n ≤ 5 ∧ D.1 3 = nI n) ∧ (g ≤ 10 ∧ D.1 4 = nI g) ∧ (u ≤ 8 ∧ D.1 5 = nI u) ∧ (1 ≤ D.1 0 ∧ D.1 0 ≤ 6) ∧ (0 ≤ D.1 1 ∧ D.1 1 ≤ 99) ∧ (0 ≤ D.1 2 ∧ D.1 2 ≤ 4) ∧ z_fe n (D.2 3) ∧ (∀ k, k < n → 1 ≤ D.2 1 k ∧ D.2 1 k ≤ 60) ∧ (∀ i j, i < n → j < n → ¬ i = j → D.2 3 i = D.2 3 j → D.2 3 i = 0) ∧ (∀ i, i < u → (11 ≤ D.2 8 i ∧ D.2 8 i ≤ 99) ∧ (11 ≤ D.2 9 i ∧ D.2 9 i ≤ 99))
def absF (x : Int32) : Int32 := if x < 0 then -x else x
/-- all placings: how many are level, the least that one is off, the first such one -/
abbrev z_Pa : Type := Int32 × Int32 × (Nat → Int32)
def leafF (sum : Int32) (at' : Nat → Int32) (a : z_Pa) : z_Pa := (if sum = 0 then a.1 + 1 else a.1, if a.2.1 = -9 ∨ absF sum < a.2.1 then absF sum else a.2.1, if a.2.1 = -9 ∨ absF sum < a.2.1 then at' else a.2.2)
def seatF (L : Nat) (s : Nat) : Int32 := if s < L then nI s - nI L else nI s - nI L + 1
def usedF (c : Nat) (at' : Nat → Int32) (x : Int32) : Bool := (List.range c).any (fun i => at' i = x)
def plF (L : Nat) (turn : Nat → Int32 → Int32) : Nat → Nat → (Nat → Int32) → Int32 → z_Pa → z_Pa
  | 0, _, at', sum, a => leafF sum at' a
  | m + 1, c, at', sum, a => (List.range (2 * L)).foldl (fun a s => if usedF c at' (seatF L s) then a else plF L turn m (c + 1) (upd at' c (seatF L s)) (sum + turn c (seatF L s)) a) a
def plD (D : z_S) (n L : Nat) : z_Pa := plF L (fun c x => turnF (D.2 0 c) (D.2 1 c) (armF (D.1 2) x)) n 0 (fun _ => 0) (ownF (D.1 1) (D.1 2)) (0, -9, fun _ => 0)
def z_pl (S : z_S) (n : Nat) : Prop := S.1 22 = 0 ∨ (S.1 22 = 1 ∧ ∃ L, L ≤ 6 ∧ S.1 0 = nI L ∧ S.1 23 = (plD (dN S) n L).1 ∧ S.1 24 = (plD (dN S) n L).2.1 ∧ ((plD (dN S) n L).2.1 = -9 ∨ ∀ k, k < n → S.2 42 k = (plD (dN S) n L).2.2 k))
def z_im (S : z_S) : Prop := (S.1 38 = 0 ∧ S.1 39 = 0) ∨ (S.1 38 = 1 ∧ S.1 39 = 1 ∧ z_Rl (S.2 62) (dK S) ∧ ∃ n g u, z_ok (dK S) n g u)
def z_txt (S : z_S) (t : Nat) : Prop := t ≤ 80 ∧ S.1 34 = nI t ∧ S.1 40 = nI t ∧ ∀ i, i < t → S.2 2 i = S.2 64 i
def z_rw (S : z_S) (w : Nat) : Prop := w ≤ 5 ∧ S.1 37 = nI w ∧ S.1 48 = nI w ∧ ∀ i, i < w → S.2 57 i = S.2 72 i
def z_rf (S : z_S) : Prop := ∀ k, k < 7 → S.2 58 k = S.2 60 k
def z_Iv (S : z_S) (n g u t w : Nat) : Prop := z_ok (dN S) n g u ∧ z_Rl (S.2 61) (dN S) ∧ z_im S ∧ z_txt S t ∧ z_rw S w ∧ z_rf S ∧ z_pl S n
def Inv (S : z_S) : Prop := ∃ n g u t w, z_Iv S n g u t w
/-- the two calls answer alike, and what holds between calls holds again -/
def z_op (jx jm : Nat) (as : List z_V) : Prop := ∀ (S : z_S), Inv S → ∀ Z : z_Zt, (∀ (a : Int32) (S1 : z_S), (∀ Z2 : z_Zt, (∀ (b : Int32) (S2 : z_S), b = a → Inv S2 → Z2 (some (.inl b)) (z_H S2)) → z_EvM 600 73 jm (z_p 59 :: as) (z_H S1) Z2) → Z (some (.inl a)) (z_H S1)) → z_EvM 600 73 jx (z_p 0 :: as) (z_H S) Z
/-- refused: both count it -/
def z_rx (S : z_S) (k : Nat) : z_S := z_w S 58 (upd (S.2 58) k (S.2 58 k + 1))
def z_rm2 (S : z_S) (k : Nat) : z_S := z_w S 60 (upd (S.2 60) k (S.2 60 k + 1))
theorem Inv_ref {S : z_S} {k : Nat} (hI : Inv S) (hk : k < 7) : Inv (z_rm2 (z_rx S k) k) := by
  obtain ⟨n, g, u, t, w, h1, h2, h3, h4, h5, h6, h7⟩ := hI
  refine ⟨n, g, u, t, w, h1, h2, h3, h4, h5, ?_, h7⟩
  intro j hj
  show upd (S.2 58) k (S.2 58 k + 1) j = upd (S.2 60) k (S.2 60 k + 1) j
  by_cases e : j = k
  · subst e
    rw [pk_us, pk_us, h6 j hj]
  · rw [pk_un e, pk_un e, h6 j hj]
theorem s_X_refuse {d : Nat} {S : z_S} {Z : z_Zt} {x : Int32} (k : Nat) (hk : k < 7) (hx : -x = nI k) (hz : Z (some (.inl x)) (z_H (z_rx S k))) : z_EvM (d + 1) 73 97 [z_p 0, .inl x] (z_H S) Z := by
  have e : (-x).toNatClampNeg = k := by rw [hx]; exact nI_clamp (by omega)
  have hi : vp_in (-x) 7 := by rw [hx]; exact vp_in_nI hk (by omega)
  have h0 : (0 : Int32) ≤ -x := by rw [hx]; exact nI_pos' (by omega)
  have h7 : -x < 7 := by rw [hx]; have := nI_lt (a := k) (b := 7) hk (by omega); exact this
  refine z_go (c := 7) (t := z_t97) rfl rfl rfl z_tk97 [] 100 (fun C K R hC hK hR => ?_)
  refine And.intro (fun q => absurd q (by grind)) (fun _ => ?_)
  refine And.intro (fun q => absurd q (show ¬ (7 : Int32) ≤ -x by grind)) (fun _ => ?_)
  refine And.intro hi (And.intro hi ?_)
  refine hR _ _ ⟨_, rfl, rfl⟩ ?_
  unfold z_rx at hz
  rw [← e] at hz
  exact hz
theorem s_X_refuseApart {d : Nat} {S : z_S} {Z : z_Zt} {x : Int32} (k : Nat) (hk : k < 7) (hx : -x = nI k) (hz : Z (some (.inl (1000000000 - x))) (z_H (z_rx S k))) : z_EvM (d + 2) 73 98 [z_p 0, .inl x] (z_H S) Z := by
  refine z_go (c := 7) (t := z_t98) rfl rfl rfl z_tk98 [] 100 (fun C K R hC hK hR => ?_)
  conv => whnf
  refine hC _ _ _ _ (s_X_refuse k hk hx ?_)
  exact hR _ _ ⟨_, rfl, rfl⟩ hz
theorem op_sum : z_op 69 142 [] := by
  intro S hI Z hz
  obtain ⟨n, g, u, t, w, hok, hRl, -⟩ := id hI
  obtain ⟨⟨hn, hc⟩, -, -, -, -, hv, hf, -⟩ := hok
  refine z_go (c := 7) (t := z_t69) rfl rfl rfl z_tk69 [] 100 (fun C K R hC hK hR => ?_)
  conv => whnf
  refine hC _ _ _ _ (s_B0_turned hc hn hf hv ?_)
  refine hR _ _ ⟨_, rfl, rfl⟩ (hz _ S (fun Z2 hz2 => ?_))
  refine z_go (c := 8) (t := z_t142) rfl rfl rfl z_tk142 [] 100 (fun C K R hC hK hR => ?_)
  conv => whnf
  refine hC _ _ _ _ (s_M_sumNow hRl hc hn ?_)
  exact hR _ _ ⟨_, rfl, rfl⟩ (hz2 _ S rfl hI)
theorem op_down : z_op 70 144 [] := by
  intro S hI Z hz
  obtain ⟨n, g, u, t, w, hok, hRl, -⟩ := id hI
  obtain ⟨⟨hn, hc⟩, -, -, -, -, hv, hf, -⟩ := hok
  refine z_go (c := 7) (t := z_t70) rfl rfl rfl z_tk70 [] 100 (fun C K R hC hK hR => ?_)
  conv => whnf
  refine hC _ _ _ _ (s_B0_turned hc hn hf hv ?_)
  conv => whnf
  refine hC _ _ _ _ (s_X_sideOf (fun r hr => ?_))
  refine hR _ _ ⟨_, rfl, rfl⟩ (hz _ S (fun Z2 hz2 => ?_))
  refine z_go (c := 8) (t := z_t144) rfl rfl rfl z_tk144 [] 100 (fun C K R hC hK hR => ?_)
  conv => whnf
  refine hC _ _ _ _ (s_M_sumNow hRl hc hn ?_)
  conv => whnf
  refine hC _ _ _ _ (s_M_downBy (fun r2 hr2 => ?_))
  refine hR _ _ ⟨_, rfl, rfl⟩ ?_
  exact hz2 _ S (hr2.trans hr.symm) hI
theorem op_inertia : z_op 82 165 [] := by
  intro S hI Z hz
  obtain ⟨n, g, u, t, w, hok, hRl, -⟩ := id hI
  obtain ⟨⟨hn, hc⟩, -⟩ := hok
  refine z_go (c := 7) (t := z_t82) rfl rfl rfl z_tk82 [] 100 (fun C K R hC hK hR => ?_)
  conv => whnf
  refine hC _ _ _ _ (s_B0_slowness hc hn (fun r hr => ?_))
  refine hR _ _ ⟨_, rfl, rfl⟩ (hz _ S (fun Z2 hz2 => ?_))
  refine z_go (c := 8) (t := z_t165) rfl rfl rfl z_tk165 [] 100 (fun C K R hC hK hR => ?_)
  conv => whnf
  refine hC _ _ _ _ (s_M_inertiaNow hRl hc hn (fun r2 hr2 => ?_))
  refine hR _ _ ⟨_, rfl, rfl⟩ ?_
  exact hz2 _ S (hr2.trans hr.symm) hI
