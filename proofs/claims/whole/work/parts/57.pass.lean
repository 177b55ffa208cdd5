/-! the second pass over the text -/
def okB (D : z_S) (n : Nat) : Prop := (n ≤ 5 ∧ D.1 3 = nI n) ∧ (1 ≤ D.1 0 ∧ D.1 0 ≤ 6) ∧ (0 ≤ D.1 1 ∧ D.1 1 ≤ 99) ∧ (0 ≤ D.1 2 ∧ D.1 2 ≤ 4) ∧ z_fe n (D.2 3) ∧ (∀ k, k < n → 1 ≤ D.2 1 k ∧ D.2 1 k ≤ 60) ∧ (∀ i j, i < n → j < n → ¬ i = j → D.2 3 i = D.2 3 j → D.2 3 i = 0)
def z_rest (D D' : z_S) : Prop := D'.1 4 = D.1 4 ∧ D'.1 5 = D.1 5 ∧ ∀ r, 4 ≤ r → D'.2 r = D.2 r
theorem dS4_ok {D : z_S} {n k : Nat} {x : Int32} (h : okB D n) (hx : x = 0 ∨ (sP (D.1 0) x ∧ ∀ i, i < n → ¬ i = k → ¬ D.2 3 i = x)) : okB (dS4 D k x) n ∧ z_rest D (dS4 D k x) := by
  obtain ⟨h1, h2, h3, h4, h5, h6, h7⟩ := h
  have six : -6 ≤ x ∧ x ≤ 6 := by
    rcases hx with rfl | hx
    · decide
    · exact sP_in h2.2 h2.1 hx.1
  refine ⟨⟨h1, h2, h3, h4, fe_upd h5 six.1 six.2, h6, di_upd h7 (hx.imp id (fun z => z.2))⟩, rfl, rfl, fun r hr => if_neg (by omega)⟩
theorem dS3_ok {D : z_S} {n : Nat} {a b c : Int32} (h : okB D n) (hb : 1 ≤ b ∧ b ≤ 60) (hn5 : ¬ n = 5) : okB (dS3 D n a b c) (n + 1) ∧ z_rest D (dS3 D n a b c) := by
  obtain ⟨h1, h2, h3, h4, h5, h6, h7⟩ := h
  refine ⟨⟨⟨by omega, (show (if 3 = 3 then nI (n + 1) else D.1 3) = nI (n + 1) from if_pos rfl)⟩, h2, h3, h4, fun k hk => ?_, fun k hk => ?_, fun i j hi hj hij e => ?_⟩, rfl, rfl, fun r hr => ?_⟩
  · show -6 ≤ upd (D.2 3) n 0 k ∧ upd (D.2 3) n 0 k ≤ 6
    by_cases e : k = n
    · subst e; rw [pk_us]; decide
    · rw [pk_un e]; exact h5 k (by omega)
  · show 1 ≤ upd (D.2 1) n b k ∧ upd (D.2 1) n b k ≤ 60
    by_cases e : k = n
    · subst e; rw [pk_us]; exact hb
    · rw [pk_un e]; exact h6 k (by omega)
  · show upd (D.2 3) n 0 i = 0
    have e : upd (D.2 3) n 0 i = upd (D.2 3) n 0 j := e
    by_cases ei : i = n
    · subst ei; exact pk_us
    · rw [pk_un ei] at e ⊢
      by_cases ej : j = n
      · subst ej; rw [pk_us] at e; exact e
      · rw [pk_un ej] at e; exact h7 i j (by omega) (by omega) hij e
  · show (if r = 0 then upd (D.2 0) n a else if r = 1 then upd (D.2 1) n b else if r = 2 then upd (D.2 2) n c else if r = 3 then upd (D.2 3) n 0 else D.2 r) = D.2 r
    rw [if_neg (by omega), if_neg (by omega), if_neg (by omega), if_neg (by omega)]
theorem rest_tr {D D' D'' : z_S} (h : z_rest D D') (h' : z_rest D' D'') : z_rest D D'' := ⟨h'.1.trans h.1, h'.2.1.trans h.2.1, fun r hr => (h'.2.2 r hr).trans (h.2.2 r hr)⟩
theorem tk_ok {D : z_S} {n : Nat} {ve a b c : Int32} {q : z_S × Nat} (h : okB D n) (hb : ve = 98 → 0 ≤ b ∧ b ≤ 99) (ha : ¬ ve = 99 → 0 ≤ a ∧ a ≤ 9) (hq : tkF D n ve a b c = some q) : okB q.1 q.2 ∧ z_rest D q.1 := by
  have hn := h.1.1
  have iN := isN_iff (c := a) (n := n) (by omega)
  unfold tkF at hq
  by_cases h98 : ve = 98
  · rw [if_pos h98] at hq
    by_cases z : a < 1 ∨ 6 < a ∨ farB n (D.2 3) a = true
    · rw [if_pos z] at hq; cases hq
    · rw [if_neg z] at hq
      cases hq
      obtain ⟨h1, h2, h3, h4, h5, h6, h7⟩ := h
      exact ⟨⟨h1, ⟨nlt_ge (fun w => z (Or.inl w)), nlt_ge (fun w => z (Or.inr (Or.inl w)))⟩, hb h98, h4, h5, h6, h7⟩, rfl, rfl, fun _ _ => rfl⟩
  · rw [if_neg h98] at hq
    by_cases h116 : ve = 116
    · rw [if_pos h116] at hq
      by_cases z : 4 < a
      · rw [if_pos z] at hq; cases hq
      · rw [if_neg z] at hq
        cases hq
        have ha := ha (by rw [h116]; decide)
        obtain ⟨h1, h2, h3, h4, h5, h6, h7⟩ := h
        exact ⟨⟨h1, h2, h3, ⟨ha.1, nlt_ge z⟩, h5, h6, h7⟩, rfl, rfl, fun _ _ => rfl⟩
    · rw [if_neg h116] at hq
      by_cases h99 : ve = 99
      · rw [if_pos h99] at hq
        by_cases z : b < 1 ∨ 60 < b ∨ n = 5
        · rw [if_pos z] at hq; cases hq
        · rw [if_neg z] at hq
          cases hq
          exact dS3_ok h ⟨nlt_ge (fun w => z (Or.inl w)), nlt_ge (fun w => z (Or.inr (Or.inl w)))⟩ (fun w => z (Or.inr (Or.inr w)))
      · rw [if_neg h99] at hq
        by_cases h115 : ve = 115
        · rw [if_pos h115] at hq
          by_cases z : ¬ (0 ≤ a ∧ a < nI n) ∨ ¬ sP (D.1 0) (b * c) ∨ takB n (D.2 3) (b * c) a = true
          · rw [if_pos z] at hq; cases hq
          · rw [if_neg z] at hq
            cases hq
            have w1 : 0 ≤ a ∧ a < nI n := Decidable.not_not.mp (fun w => z (Or.inl w))
            have w2 : sP (D.1 0) (b * c) := Decidable.not_not.mp (fun w => z (Or.inr (Or.inl w)))
            obtain ⟨k, hk, ek⟩ := iN.mp w1
            refine dS4_ok h (Or.inr ⟨w2, fun i hi hik e => z (Or.inr (Or.inr (tak_iff.mpr ⟨i, hi, fun w => hik ?_, e⟩)))⟩)
            rw [ek, nI_clamp (by omega)]
            rw [ek] at w
            exact (nI_eq (by omega) (by omega)).mp w
        · rw [if_neg h115] at hq
          by_cases z : ¬ (0 ≤ a ∧ a < nI n)
          · rw [if_pos z] at hq; cases hq
          · rw [if_neg z] at hq
            cases hq
            exact dS4_ok h (Or.inl rfl)
noncomputable def p2F (g : Nat → Int32) (t : Nat) : Nat → Nat → Nat → z_S → Nat → Nat ⊕ (z_S × Nat × Nat)
  | 0, _, st, D, n => .inr (D, n, st)
  | m + 1, p, st, D, n => match rsF g p with
    | .inl _ => .inl p
    | .inr r => match tkF D n (g p) r.2.1 r.2.2.1 r.2.2.2 with
      | none => .inl p
      | some q => if r.1 < t then p2F g t m r.1 (st + 1) q.1 q.2 else .inr (q.1, q.2, st + 1)
theorem rs_verb {le : Nat → Int32} {t p : Nat} {r : Nat × Int32 × Int32 × Int32} (h : rsF (gF le t) p = .inr r) : gF le t p = 98 ∨ gF le t p = 99 ∨ gF le t p = 115 ∨ gF le t p = 116 ∨ gF le t p = 111 := by
  unfold rsF at h
  by_cases h98 : gF le t p = 98
  · exact Or.inl h98
  · rw [if_neg h98] at h
    by_cases h99 : gF le t p = 99
    · exact Or.inr (Or.inl h99)
    · rw [if_neg h99] at h
      by_cases h115 : gF le t p = 115
      · exact Or.inr (Or.inr (Or.inl h115))
      · rw [if_neg h115] at h
        by_cases h116 : gF le t p = 116 ∨ gF le t p = 111
        · rcases h116 with w | w
          · exact Or.inr (Or.inr (Or.inr (Or.inl w)))
          · exact Or.inr (Or.inr (Or.inr (Or.inr w)))
        · rw [if_neg h116] at h; cases h
def p2T (Z : z_Zt) (S : z_S) (N : z_S → z_S → Nat → Nat → Prop) : Nat ⊕ (z_S × Nat × Nat) → Prop
  | .inl q => ∀ E pl ve f, Z (some (.inl (-2000 - nI q))) (z_H (tS (btS S E) pl ve f))
  | .inr r => ∀ E pl ve f, eqv E r.1 → N (tS (btS S E) pl ve f) r.1 r.2.1 r.2.2
section
variable {d t : Nat} {S : z_S} {Z : z_Zt} {N : z_S → z_S → Nat → Nat → Prop}
set_option maxRecDepth 20000 in
theorem l_X_rb (ht : S.1 34 = nI t) (ht8 : t ≤ 80) (hN : ∀ S' D n st, N S' D n st → z_Run (d + 11) 73 (z_own 7) z_m99.2.1 z_m99.2.2.1 none (fun v h' => z_nar z_m99.2.2.2.1 v ∧ Z v h') 116 [(0, z_p 0), (2, .inl (nI st))] [] (z_H S')) : ∀ m p st (E D : z_S) n ve f, t < p + m → 3 * st ≤ p → p < t → eqv E D → okB D n → p2T Z S N (p2F (gF (S.2 2) t) t m p st D n) → z_Run (d + 11) 73 (z_own 7) z_m99.2.1 z_m99.2.2.1 none (fun v h' => z_nar z_m99.2.2.2.1 v ∧ Z v h') 39 [(0, z_p 0), (2, .inl (nI st))] [] (z_H (tS (btS S E) (nI p) ve f)) := by
  intro m
  induction m with
  | zero => intro p st E D n ve f h1 h2 h3; omega
  | succ m ih =>
    intro p st E D n ve f h1 h2 h3 he hok hz
    rw [p2F] at hz
    have bad : ∀ S', (Z (some (.inl (-2000 - nI p))) (z_H S')) → z_Run (d + 11) 73 (z_own 7) z_m99.2.1 z_m99.2.2.1 none (fun v h' => z_nar z_m99.2.2.2.1 v ∧ Z v h') 104 [(3, .inl (nI p))] [] (z_H S') := by
      intro S' h
      refine z_Run_of z_tk99 [] 60 (fun C K R hC hK hR => ?_)
      exact hR _ _ ⟨⟨_, rfl, rfl⟩, h⟩
    refine z_Run_of z_tk99 [(39, [0, 2]), (104, [3]), (116, [0, 2])] 60 (fun C K R hC hK hR => ?_)
    refine And.intro (fun e => absurd e (show ¬ (80 : Int32) ≤ nI st from nI_ge (a := st) (b := 80) (by omega) (by omega))) (fun _ => ?_)
    refine And.intro (fun e => absurd (show S.1 34 ≤ nI p from e) (by rw [ht]; exact nI_ge (by omega) (by omega))) (fun _ => ?_)
    conv => whnf
    refine hC _ _ _ _ (s_T_rs (S := btS S E) (t := t) (p := p) ht ht8 (by omega) ?_)
    show tP _ (btS S E) (gF (S.2 2) t p) (rsF (gF (S.2 2) t) p)
    cases hr : rsF (gF (S.2 2) t) p with
    | inl p' =>
      rw [hr] at hz
      intro f'
      refine And.intro (fun _ => ?_) (fun e => absurd rfl e)
      exact hK _ _ _ _ (bad _ (hz _ _ _ _))
    | inr r =>
      rw [hr] at hz
      obtain ⟨⟨i1, i2⟩, j1, j2, j3⟩ := rs_inv hr
      intro f' htd
      refine And.intro (fun e => absurd e (by decide)) (fun _ => ?_)
      conv => whnf
      refine hC _ _ _ _ (s_B1_takes (S := S) (E := E) (D := D) (n := n) hok.1.2 hok.1.1 he (rs_verb hr) htd j2 ?_)
      show tkP _ S (nI r.1) (gF (S.2 2) t p) f' (tkF D n (gF (S.2 2) t p) r.2.1 r.2.2.1 r.2.2.2)
      cases hq : tkF D n (gF (S.2 2) t p) r.2.1 r.2.2.1 r.2.2.2 with
      | none =>
        have hz : p2T Z S N (match tkF D n (gF (S.2 2) t p) r.2.1 r.2.2.1 r.2.2.2 with | none => .inl p | some q => if r.1 < t then p2F (gF (S.2 2) t) t m r.1 (st + 1) q.1 q.2 else .inr (q.1, q.2, st + 1)) := hz
        rw [hq] at hz
        intro E'
        refine And.intro (fun e => absurd rfl e) (fun _ => ?_)
        exact hK _ _ _ _ (bad _ (hz _ _ _ _))
      | some q =>
        have hz : p2T Z S N (match tkF D n (gF (S.2 2) t p) r.2.1 r.2.2.1 r.2.2.2 with | none => .inl p | some q => if r.1 < t then p2F (gF (S.2 2) t) t m r.1 (st + 1) q.1 q.2 else .inr (q.1, q.2, st + 1)) := hz
        rw [hq] at hz
        have hz : p2T Z S N (if r.1 < t then p2F (gF (S.2 2) t) t m r.1 (st + 1) q.1 q.2 else .inr (q.1, q.2, st + 1)) := hz
        obtain ⟨k1, k2⟩ := tk_ok hok j1 j2 hq
        intro E' he'
        refine And.intro (fun _ => ?_) (fun e => absurd e (by decide))
        by_cases qq : r.1 < t
        · rw [if_pos qq] at hz
          have := ih r.1 (st + 1) E' q.1 q.2 (gF (S.2 2) t p) f' (by omega) (by omega) qq he' k1 hz
          rw [nI_succ] at this
          exact hK _ _ _ _ this
        · rw [if_neg qq] at hz
          have h116 := hN _ _ _ _ (hz E' (nI r.1) (gF (S.2 2) t p) f' he')
          refine hK _ _ _ _ ?_
          rw [← nI_succ]
          refine z_Run_of z_tk99 [(116, [0, 2])] 60 (fun C K R hC hK hR => ?_)
          refine And.intro (fun e => absurd e (show ¬ (80 : Int32) ≤ nI (st + 1) from nI_ge (a := st + 1) (b := 80) (by omega) (by omega))) (fun _ => ?_)
          refine And.intro (fun _ => hK _ _ _ _ h116) (fun e => absurd (show S.1 34 ≤ nI r.1 by rw [ht]; exact nI_le (by omega) (by omega)) e)
end
