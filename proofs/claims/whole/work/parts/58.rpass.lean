/-! the second pass over the text: the reference's -/
theorem p2_cnt {g : Nat → Int32} {t k : Nat} : ∀ m p st D n r, fpF g t m p st = .inr k → p2F g t m p st D n = .inr r → r.2.2 = k := by
  intro m
  induction m with
  | zero => intro p st D n r h1 h2; rw [fpF] at h1; rw [p2F] at h2; cases h1; cases h2; rfl
  | succ m ih =>
    intro p st D n r h1 h2
    rw [fpF] at h1
    rw [p2F] at h2
    cases hr : rsF g p with
    | inl q => rw [hr] at h1; cases h1
    | inr q =>
      rw [hr] at h1 h2
      cases hq : tkF D n (g p) q.2.1 q.2.2.1 q.2.2.2 with
      | none =>
        have h2 : (match tkF D n (g p) q.2.1 q.2.2.1 q.2.2.2 with | none => (.inl p : Nat ⊕ (z_S × Nat × Nat)) | some w => if q.1 < t then p2F g t m q.1 (st + 1) w.1 w.2 else .inr (w.1, w.2, st + 1)) = .inr r := h2
        rw [hq] at h2; cases h2
      | some w =>
        have h2 : (match tkF D n (g p) q.2.1 q.2.2.1 q.2.2.2 with | none => (.inl p : Nat ⊕ (z_S × Nat × Nat)) | some w => if q.1 < t then p2F g t m q.1 (st + 1) w.1 w.2 else .inr (w.1, w.2, st + 1)) = .inr r := h2
        rw [hq] at h2
        have h2 : (if q.1 < t then p2F g t m q.1 (st + 1) w.1 w.2 else .inr (w.1, w.2, st + 1)) = .inr r := h2
        have h1 : (if q.1 < t then fpF g t m q.1 (st + 1) else .inr (st + 1)) = .inr k := h1
        by_cases z : q.1 < t
        · rw [if_pos z] at h1 h2
          exact ih _ _ _ _ _ h1 h2
        · rw [if_neg z] at h1 h2
          cases h1; cases h2; rfl
theorem p2_ok {g : Nat → Int32} {le : Nat → Int32} {t : Nat} (hg : g = gF le t) : ∀ m p st D n r, okB D n → p2F g t m p st D n = .inr r → okB r.1 r.2.1 ∧ z_rest D r.1 := by
  intro m
  induction m with
  | zero => intro p st D n r h1 h2; rw [p2F] at h2; cases h2; exact ⟨h1, rfl, rfl, fun _ _ => rfl⟩
  | succ m ih =>
    intro p st D n r h1 h2
    rw [p2F] at h2
    cases hr : rsF g p with
    | inl q => rw [hr] at h2; cases h2
    | inr q =>
      rw [hr] at h2
      cases hq : tkF D n (g p) q.2.1 q.2.2.1 q.2.2.2 with
      | none =>
        have h2 : (match tkF D n (g p) q.2.1 q.2.2.1 q.2.2.2 with | none => (.inl p : Nat ⊕ (z_S × Nat × Nat)) | some w => if q.1 < t then p2F g t m q.1 (st + 1) w.1 w.2 else .inr (w.1, w.2, st + 1)) = .inr r := h2
        rw [hq] at h2; cases h2
      | some w =>
        have h2 : (match tkF D n (g p) q.2.1 q.2.2.1 q.2.2.2 with | none => (.inl p : Nat ⊕ (z_S × Nat × Nat)) | some w => if q.1 < t then p2F g t m q.1 (st + 1) w.1 w.2 else .inr (w.1, w.2, st + 1)) = .inr r := h2
        rw [hq] at h2
        have h2 : (if q.1 < t then p2F g t m q.1 (st + 1) w.1 w.2 else .inr (w.1, w.2, st + 1)) = .inr r := h2
        subst hg
        obtain ⟨-, j1, j2, -⟩ := rs_inv hr
        obtain ⟨k1, k2⟩ := tk_ok h1 j1 j2 hq
        by_cases z : q.1 < t
        · rw [if_pos z] at h2
          obtain ⟨i1, i2⟩ := ih _ _ _ _ _ k1 h2
          exact ⟨i1, rest_tr k2 i2⟩
        · rw [if_neg z] at h2
          cases h2; exact ⟨k1, k2⟩
def m2T (Z : z_Zt) (S : z_S) (k : Nat) : Nat ⊕ (z_S × Nat × Nat) → Prop
  | .inl q => ∀ e pl f, Z (some (.inl (-2000 - nI q))) (z_H (rS' S e pl f))
  | .inr r => ∀ e pl f f', z_Rl e r.1 → (∀ i, i < 90 → f' i = e i) → Z (some (.inl (nI k))) (z_H (z_w (rS' S e pl f) 61 f'))
section
variable {d t k : Nat} {S : z_S} {Z : z_Zt}
set_option maxRecDepth 20000 in
theorem l_M_rb (ht : S.1 40 = nI t) (ht8 : t ≤ 80) : ∀ m p st (e : Nat → Int32) (D : z_S) n f, t < p + m → p < t → fpF (gF (S.2 64) t) t m p st = .inr k → z_Rl e D → okB D n → m2T Z S k (p2F (gF (S.2 64) t) t m p st D n) → z_Run (d + 4) 73 (z_own 8) z_m130.2.1 z_m130.2.2.1 none (fun v h' => z_nar z_m130.2.2.2.1 v ∧ Z v h') 53 [(0, z_p 59), (1, .inl (nI k))] [] (z_H (rS' S e (nI p) f)) := by
  intro m
  induction m with
  | zero => intro p st e D n f h1 h2; omega
  | succ m ih =>
    intro p st e D n f h1 h2 h3 hD hok hz
    rw [p2F] at hz
    rw [fpF] at h3
    refine z_Run_of z_tk130 [(53, [0, 1])] 60 (fun C K R hC hK hR => ?_)
    refine And.intro (fun z => absurd (show S.1 40 ≤ nI p from z) (by rw [ht]; exact nI_ge h2 (by omega))) (fun _ => ?_)
    conv => whnf
    refine hC _ _ _ _ (s_M_sign (S := rS' S e (nI p) f) (t := t) (p := p) ht ht8 rfl (by omega) ?_)
    conv => whnf
    refine hC _ _ _ _ (s_M_readsStatement (S := z_w S 63 e) (t := t) (p := p) ht ht8 (by omega) ?_)
    show uP _ (z_w S 63 e) (gF (S.2 64) t p) (rsF (gF (S.2 64) t) p)
    cases hr : rsF (gF (S.2 64) t) p with
    | inl p' => rw [hr] at h3; cases h3
    | inr r =>
      rw [hr] at hz h3
      obtain ⟨⟨i1, i2⟩, j1, j2, j3⟩ := rs_inv hr
      intro f' htd
      conv => whnf
      refine hC _ _ _ _ (s_M_comes (S := S) (e := e) (D := D) (n := n) (f := f') (pl := nI r.1) hD hok.1.2 hok.1.1 hok.2.1 (rs_verb hr) htd j2 j3 ?_)
      have h3 : (if r.1 < t then fpF (gF (S.2 64) t) t m r.1 (st + 1) else .inr (st + 1)) = .inr k := h3
      have hz : m2T Z S k (match tkF D n (gF (S.2 64) t p) r.2.1 r.2.2.1 r.2.2.2 with | none => .inl p | some q => if r.1 < t then p2F (gF (S.2 64) t) t m r.1 (st + 1) q.1 q.2 else .inr (q.1, q.2, st + 1)) := hz
      show cmP _ S (nI r.1) f' (tkF D n (gF (S.2 64) t p) r.2.1 r.2.2.1 r.2.2.2)
      cases hq : tkF D n (gF (S.2 64) t p) r.2.1 r.2.2.1 r.2.2.2 with
      | none =>
        rw [hq] at hz
        intro e'
        refine And.intro (fun w => absurd rfl w) (fun _ => ?_)
        exact hR _ _ ⟨⟨_, rfl, rfl⟩, hz _ _ _⟩
      | some q =>
        rw [hq] at hz
        have hz : m2T Z S k (if r.1 < t then p2F (gF (S.2 64) t) t m r.1 (st + 1) q.1 q.2 else .inr (q.1, q.2, st + 1)) := hz
        obtain ⟨k1, k2⟩ := tk_ok hok j1 j2 hq
        intro e' he'
        refine And.intro (fun _ => ?_) (fun e => absurd e (by decide))
        by_cases qq : r.1 < t
        · rw [if_pos qq] at hz h3
          exact hK _ _ _ _ (ih r.1 (st + 1) e' q.1 q.2 f' (by omega) qq h3 he' k1 hz)
        · rw [if_neg qq] at hz h3
          refine hK _ _ _ _ ?_
          refine z_Run_of z_tk130 [] 60 (fun C K R hC hK hR => ?_)
          refine And.intro (fun _ => ?_) (fun z => absurd (show S.1 40 ≤ nI r.1 by rw [ht]; exact nI_le (by omega) (by omega)) z)
          conv => whnf
          refine hC _ _ _ _ (s_M_copies63_61 (fun g hg => ?_))
          exact hR _ _ ⟨⟨_, rfl, rfl⟩, hz _ _ _ _ he' hg⟩
set_option maxRecDepth 20000 in
theorem s_M_reads {D : z_S} {n : Nat} {pl : Int32} {f : Nat → Int32} (ht : S.1 40 = nI t) (ht8 : t ≤ 80) (hD : z_Rl (S.2 61) D) (hok : okB D n) (h1 : ∀ q, fpF (gF (S.2 64) t) t 81 0 0 = .inl q → q ≤ 1000 → ∀ f, Z (some (.inl (-1000 - nI q))) (z_H (uS S (nI q) f))) (h2 : ∀ k, fpF (gF (S.2 64) t) t 81 0 0 = .inr k → m2T Z S k (p2F (gF (S.2 64) t) t 81 0 0 D n)) : z_EvM (d + 4) 73 130 [z_p 59] (z_H (uS S pl f)) Z := by
  refine z_go (c := 8) (t := z_t130) rfl rfl rfl z_tk130 [(7, [0, 1])] 60 (fun C K R hC hK hR => ?_)
  refine hK _ _ _ _ ?_
  have := l_M_rd (d := d) (S := S) (Z := Z) (t := t) (next := fun k _ _ => fpF (gF (S.2 64) t) t 81 0 0 = .inr k) ht ht8 (fun k pl f hk => ?_) 81 0 0 f (by omega) (by omega) (by omega) h1 (fun k hk _ _ => hk)
  · exact this
  · have tp : 0 < t := by
      by_cases z : 0 < t
      · exact z
      · have z : t = 0 := by omega
        subst z
        have g0 : ∀ p, gF (S.2 64) 0 p = -1 := fun p => if_neg (by omega)
        rw [fpF] at hk
        unfold rsF at hk
        rw [g0 0] at hk
        cases hk
    refine z_Run_of z_tk130 [(53, [0, 1])] 60 (fun C K R hC hK hR => ?_)
    conv => whnf
    refine hC _ _ _ _ (s_M_copies61_63 (S := uS S pl f) (fun g hg => ?_))
    refine hK _ _ _ _ ?_
    exact l_M_rb (d := d) (S := S) (Z := Z) ht ht8 81 0 0 g D n f (by omega) tp hk (dq_Rl hD hg ⟨fun _ _ => rfl, fun _ _ _ _ => rfl, fun _ _ _ _ => rfl, fun _ _ _ _ => rfl⟩) hok (h2 k hk)
end
