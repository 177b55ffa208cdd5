/-! the first pass over the text, both sides -/
theorem rD_i {g : Nat → Int32} {p : Nat} {k : Int32 → Nat → z_RS} {r : Nat × Int32 × Int32 × Int32} (h : rD g p k = .inr r) : isD (g p) ∧ k (g p - 48) (p + 1) = .inr r := by
  unfold rD at h
  by_cases q : isD (g p)
  · rw [if_pos q] at h; exact ⟨q, h⟩
  · rw [if_neg q] at h; cases h
theorem rN_i {g : Nat → Int32} {p : Nat} {k : Int32 → Nat → z_RS} {r : Nat × Int32 × Int32 × Int32} (h : rN g p k = .inr r) : isD (g p) ∧ k (nmF g p) (nmN g p) = .inr r := by
  unfold rN at h
  by_cases q : isD (g p)
  · rw [if_pos q] at h; exact ⟨q, h⟩
  · rw [if_neg q] at h; cases h
theorem rC_i {g : Nat → Int32} {p : Nat} {c : Int32} {k : Nat → z_RS} {r : Nat × Int32 × Int32 × Int32} (h : rC g c p k = .inr r) : g p = c ∧ k (p + 1) = .inr r := by
  unfold rC at h
  by_cases q : g p = c
  · rw [if_pos q] at h; exact ⟨q, h⟩
  · rw [if_neg q] at h; cases h
theorem rK_i {g : Nat → Int32} {p : Nat} {k : Int32 → Nat → z_RS} {r : Nat × Int32 × Int32 × Int32} (h : rK g p k = .inr r) : ¬ kdF (g p) = -2 ∧ k (kdF (g p)) (p + 1) = .inr r := by
  unfold rK at h
  by_cases q : kdF (g p) = -2
  · rw [if_pos q] at h; cases h
  · rw [if_neg q] at h; exact ⟨q, h⟩
theorem rS_i {g : Nat → Int32} {p : Nat} {k : Int32 → Nat → z_RS} {r : Nat × Int32 × Int32 × Int32} (h : rS g p k = .inr r) : ¬ sdF (g p) = -2 ∧ k (sdF (g p)) (p + 1) = .inr r := by
  unfold rS at h
  by_cases q : sdF (g p) = -2
  · rw [if_pos q] at h; cases h
  · rw [if_neg q] at h; exact ⟨q, h⟩
theorem nm_ge {g : Nat → Int32} {p : Nat} (h : isD (g p)) : p + 1 ≤ nmN g p := by
  unfold nmN
  rw [if_pos h]
  split <;> omega
theorem dg_in {c : Int32} (h : isD c) : 0 ≤ c - 48 ∧ c - 48 ≤ 9 := by
  have h1 := h.1
  have h2 := h.2
  constructor <;> grind
theorem nm_in {g : Nat → Int32} {p : Nat} (h : isD (g p)) : 0 ≤ nmF g p ∧ nmF g p ≤ 99 := by
  unfold nmF
  rw [if_pos h]
  have h1 := dg_in h
  by_cases q : isD (g (p + 1))
  · rw [if_pos q]
    have q1 := dg_in q
    generalize g p - 48 = x at h1
    generalize g (p + 1) - 48 = y at q1
    clear h q
    constructor <;> grind
  · rw [if_neg q]
    generalize g p - 48 = x at h1
    clear h q
    constructor <;> grind
theorem sd_in {c : Int32} (h : ¬ sdF c = -2) : sdF c = -1 ∨ sdF c = 1 := by
  unfold sdF at h ⊢
  by_cases q : c = 108
  · rw [if_pos q]; exact Or.inl rfl
  · rw [if_neg q] at h ⊢
    by_cases q2 : c = 114
    · rw [if_pos q2]; exact Or.inr rfl
    · rw [if_neg q2] at h; exact absurd rfl h
theorem rs_inv {le : Nat → Int32} {t p : Nat} {r : Nat × Int32 × Int32 × Int32} (h : rsF (gF le t) p = .inr r) : (p + 3 ≤ r.1 ∧ r.1 ≤ t) ∧ (gF le t p = 98 → 0 ≤ r.2.2.1 ∧ r.2.2.1 ≤ 99) ∧ (¬ gF le t p = 99 → 0 ≤ r.2.1 ∧ r.2.1 ≤ 9) ∧ (gF le t p = 115 → (r.2.2.1 = -1 ∨ r.2.2.1 = 1) ∧ 0 ≤ r.2.2.2 ∧ r.2.2.2 ≤ 9) := by
  unfold rsF at h
  generalize hve : gF le t p = ve at h
  have c59 : ∀ q, gF le t q = 59 → q < t := fun q w => g_lt (fun z => by rw [z] at w; exact absurd w (by decide))
  by_cases h98 : ve = 98
  · rw [if_pos h98] at h
    obtain ⟨a1, h⟩ := rD_i h
    obtain ⟨a2, h⟩ := rC_i h
    obtain ⟨a3, h⟩ := rN_i h
    obtain ⟨a4, h⟩ := rC_i h
    cases h
    have := nm_ge a3
    have := c59 _ a4
    exact ⟨⟨by show p + 3 ≤ _ + 1; omega, by show _ + 1 ≤ t; omega⟩, fun _ => nm_in a3, fun _ => dg_in a1, fun z => by rw [h98] at z; exact absurd z (by decide)⟩
  · rw [if_neg h98] at h
    by_cases h99 : ve = 99
    · rw [if_pos h99] at h
      obtain ⟨a1, h⟩ := rK_i h
      obtain ⟨a2, h⟩ := rN_i h
      obtain ⟨a3, h⟩ := rC_i h
      obtain ⟨a4, h⟩ := rD_i h
      obtain ⟨a5, h⟩ := rC_i h
      cases h
      have := nm_ge a2
      have := c59 _ a5
      exact ⟨⟨by show p + 3 ≤ _ + 1; omega, by show _ + 1 ≤ t; omega⟩, fun z => absurd z h98, fun z => absurd h99 z, fun z => by rw [h99] at z; exact absurd z (by decide)⟩
    · rw [if_neg h99] at h
      by_cases h115 : ve = 115
      · rw [if_pos h115] at h
        obtain ⟨a1, h⟩ := rD_i h
        obtain ⟨a2, h⟩ := rS_i h
        obtain ⟨a3, h⟩ := rD_i h
        obtain ⟨a5, h⟩ := rC_i h
        cases h
        have := c59 _ a5
        exact ⟨⟨by show p + 3 ≤ _ + 1; omega, by show _ + 1 ≤ t; omega⟩, fun z => absurd z h98, fun _ => dg_in a1, fun _ => ⟨sd_in a2, dg_in a3⟩⟩
      · rw [if_neg h115] at h
        by_cases h116 : ve = 116 ∨ ve = 111
        · rw [if_pos h116] at h
          obtain ⟨a1, h⟩ := rD_i h
          obtain ⟨a5, h⟩ := rC_i h
          cases h
          have := c59 _ a5
          exact ⟨⟨by show p + 3 ≤ _ + 1; omega, by show _ + 1 ≤ t; omega⟩, fun z => absurd z h98, fun _ => dg_in a1, fun z => absurd z h115⟩
        · rw [if_neg h116] at h; cases h
def fpF (g : Nat → Int32) (t : Nat) : Nat → Nat → Nat → Nat ⊕ Nat
  | 0, _, n => .inr n
  | m + 1, p, n => match rsF g p with
    | .inl p' => .inl p'
    | .inr r => if r.1 < t then fpF g t m r.1 (n + 1) else .inr (n + 1)
section
variable {d t : Nat} {S : z_S} {Z : z_Zt}
set_option maxRecDepth 20000 in
theorem s_T_rs {p : Nat} {ve : Int32} {f : Nat → Int32} (ht : S.1 34 = nI t) (ht8 : t ≤ 80) (hp8 : p ≤ t) (hz : tP Z S (gF (S.2 2) t p) (rsF (gF (S.2 2) t) p)) : z_EvM (d + 10) 73 54 [z_p 1] (z_H (tS S (nI p) ve f)) Z := by
  refine s_T_readStatement (S := tS S (nI p) ve f) ht ht8 rfl hp8 ?_
  show tP Z (tS S (nI p) ve f) (gF (S.2 2) t p) (rsF (gF (S.2 2) t) p)
  cases hr : rsF (gF (S.2 2) t) p with
  | inl p' => rw [hr] at hz; exact hz
  | inr r => rw [hr] at hz; exact hz
def fpT (Z : z_Zt) (S : z_S) : Nat ⊕ Nat → Prop
  | .inl q => ∀ ve f, q ≤ 1000 → Z (some (.inl (nI q))) (z_H (tS S (nI q) ve f))
  | .inr _ => ∀ pl ve f, Z (some (.inl (-1))) (z_H (tS S pl ve f))
theorem rs_fail {le : Nat → Int32} {t p p' : Nat} (hp : p ≤ t) (h : rsF (gF le t) p = .inl p') : p' ≤ t + 9 := by
  have n9 : ∀ q, nmN (gF le t) q ≤ q + 2 := by
    intro q
    unfold nmN
    split
    · split <;> omega
    · omega
  have cD : ∀ q k, (∀ a, k a (q + 1) = .inl p' → p' ≤ t + 9) → q ≤ t + 9 → rD (gF le t) q k = .inl p' → p' ≤ t + 9 := by
    intro q k h1 h2 h3
    unfold rD at h3
    by_cases z : isD (gF le t q)
    · rw [if_pos z] at h3; exact h1 _ h3
    · rw [if_neg z] at h3; cases h3; exact h2
  have cN : ∀ q k, (∀ a, k a (nmN (gF le t) q) = .inl p' → p' ≤ t + 9) → q ≤ t + 9 → rN (gF le t) q k = .inl p' → p' ≤ t + 9 := by
    intro q k h1 h2 h3
    unfold rN at h3
    by_cases z : isD (gF le t q)
    · rw [if_pos z] at h3; exact h1 _ h3
    · rw [if_neg z] at h3; cases h3; exact h2
  have cC : ∀ q c k, (k (q + 1) = .inl p' → p' ≤ t + 9) → q ≤ t + 9 → rC (gF le t) c q k = .inl p' → p' ≤ t + 9 := by
    intro q c k h1 h2 h3
    unfold rC at h3
    by_cases z : gF le t q = c
    · rw [if_pos z] at h3; exact h1 h3
    · rw [if_neg z] at h3; cases h3; exact h2
  have cK : ∀ q k, (∀ a, k a (q + 1) = .inl p' → p' ≤ t + 9) → q ≤ t + 9 → rK (gF le t) q k = .inl p' → p' ≤ t + 9 := by
    intro q k h1 h2 h3
    unfold rK at h3
    by_cases z : kdF (gF le t q) = -2
    · rw [if_pos z] at h3; cases h3; exact h2
    · rw [if_neg z] at h3; exact h1 _ h3
  have cS : ∀ q k, (∀ a, k a (q + 1) = .inl p' → p' ≤ t + 9) → q ≤ t + 9 → rS (gF le t) q k = .inl p' → p' ≤ t + 9 := by
    intro q k h1 h2 h3
    unfold rS at h3
    by_cases z : sdF (gF le t q) = -2
    · rw [if_pos z] at h3; cases h3; exact h2
    · rw [if_neg z] at h3; exact h1 _ h3
  have e1 := n9 (p + 1 + 1)
  have e2 := n9 (p + 1 + 1 + 1)
  unfold rsF at h
  by_cases h98 : gF le t p = 98
  · rw [if_pos h98] at h
    exact cD _ _ (fun a h => cC _ _ _ (fun h => cN _ _ (fun b h => cC _ _ _ (fun h => by cases h) (by omega) h) (by omega) h) (by omega) h) (by omega) h
  · rw [if_neg h98] at h
    by_cases h99 : gF le t p = 99
    · rw [if_pos h99] at h
      exact cK _ _ (fun a h => cN _ _ (fun b h => cC _ _ _ (fun h => cD _ _ (fun c h => cC _ _ _ (fun h => by cases h) (by omega) h) (by omega) h) (by omega) h) (by omega) h) (by omega) h
    · rw [if_neg h99] at h
      by_cases h115 : gF le t p = 115
      · rw [if_pos h115] at h
        exact cD _ _ (fun a h => cS _ _ (fun b h => cD _ _ (fun c h => cC _ _ _ (fun h => by cases h) (by omega) h) (by omega) h) (by omega) h) (by omega) h
      · rw [if_neg h115] at h
        by_cases h116 : gF le t p = 116 ∨ gF le t p = 111
        · rw [if_pos h116] at h
          exact cD _ _ (fun a h => cC _ _ _ (fun h => by cases h) (by omega) h) (by omega) h
        · rw [if_neg h116] at h; cases h; omega
set_option maxRecDepth 20000 in
theorem l_T_fp (ht : S.1 34 = nI t) (ht8 : t ≤ 80) : ∀ m p n ve f, t < p + m → 3 * n ≤ p → p ≤ t → (n = 0 ∨ p < t) → fpT Z S (fpF (gF (S.2 2) t) t m p n) → z_Run (d + 11) 73 (z_own 6) z_m53.2.1 z_m53.2.2.1 none (fun v h' => z_nar z_m53.2.2.2.1 v ∧ Z v h') 7 [(0, z_p 1), (1, .inl (nI n))] [] (z_H (tS S (nI p) ve f)) := by
  intro m
  induction m with
  | zero => intro p n ve f h1 h2 h3; omega
  | succ m ih =>
    intro p n ve f h1 h2 h3 h4 hz
    have n28 : z_Run (d + 11) 73 (z_own 6) z_m53.2.1 z_m53.2.2.1 none (fun v h' => z_nar z_m53.2.2.2.1 v ∧ Z v h') 28 [(0, z_p 1), (1, .inl (nI n))] [] (z_H (tS S (nI p) ve f)) := by
      refine z_Run_of z_tk53 [(7, [0, 1])] 60 (fun C K R hC hK hR => ?_)
      conv => whnf
      refine hC _ _ _ _ (s_T_rs (t := t) (p := p) ht ht8 h3 ?_)
      rw [fpF] at hz
      cases hr : rsF (gF (S.2 2) t) p with
      | inl p' =>
        rw [hr] at hz
        intro f'
        refine And.intro (fun e => absurd rfl e) (fun _ => ?_)
        have := rs_fail h3 hr
        exact hR _ _ ⟨⟨_, rfl, rfl⟩, hz _ f' (by omega)⟩
      | inr r =>
        rw [hr] at hz
        obtain ⟨⟨i1, i2⟩, -⟩ := rs_inv hr
        intro f' _
        refine And.intro (fun _ => ?_) (fun e => absurd e (by decide))
        by_cases q : r.1 < t
        · have hz : fpT Z S (if r.1 < t then fpF (gF (S.2 2) t) t m r.1 (n + 1) else .inr (n + 1)) := hz
          rw [if_pos q] at hz
          have := ih r.1 (n + 1) (gF (S.2 2) t p) f' (by omega) (by omega) i2 (Or.inr q) hz
          rw [nI_succ] at this
          exact hK _ _ _ _ this
        · have hz : fpT Z S (if r.1 < t then fpF (gF (S.2 2) t) t m r.1 (n + 1) else .inr (n + 1)) := hz
          rw [if_neg q] at hz
          refine hK _ _ _ _ ?_
          rw [← nI_succ]
          refine z_Run_of z_tk53 [(46, [0])] 60 (fun C K R hC hK hR => ?_)
          have out : z_Run (d + 11) 73 (z_own 6) z_m53.2.1 z_m53.2.2.1 none (fun v h' => z_nar z_m53.2.2.2.1 v ∧ Z v h') 46 [(0, z_p 1)] [] (z_H (tS S (nI r.1) (gF (S.2 2) t p) f')) := by
            refine z_Run_of z_tk53 [] 60 (fun C K R hC hK hR => ?_)
            exact hR _ _ ⟨⟨_, rfl, rfl⟩, hz _ _ _⟩
          refine And.intro (fun _ => hK _ _ _ _ out) (fun _ => ?_)
          refine And.intro (fun e => absurd e (nI_ne0 (by omega) (by omega))) (fun _ => ?_)
          refine And.intro (fun _ => hK _ _ _ _ out) (fun e => absurd (show S.1 34 ≤ nI r.1 by rw [ht]; exact nI_le (by omega) (by omega)) e)
    refine z_Run_of z_tk53 [(28, [0, 1])] 60 (fun C K R hC hK hR => ?_)
    refine And.intro (fun e => absurd e (show ¬ (80 : Int32) ≤ nI n from nI_ge (a := n) (b := 80) (by omega) (by omega))) (fun _ => ?_)
    refine And.intro (fun _ => hK _ _ _ _ n28) (fun e => ?_)
    have hn0 : ¬ n = 0 := fun z => e (by rw [z]; rfl)
    have hpt := h4.resolve_left hn0
    refine And.intro (fun e2 => absurd (show S.1 34 ≤ nI p from e2) (by rw [ht]; exact nI_ge (by omega) (by omega))) (fun _ => hK _ _ _ _ n28)
set_option maxRecDepth 20000 in
theorem s_T_faultPlace {ve : Int32} {f : Nat → Int32} {pl : Int32} (ht : S.1 34 = nI t) (ht8 : t ≤ 80) (hz : fpT Z S (fpF (gF (S.2 2) t) t 81 0 0)) : z_EvM (d + 11) 73 53 [z_p 1] (z_H (tS S pl ve f)) Z := by
  refine z_go (c := 6) (t := z_t53) rfl rfl rfl z_tk53 [(7, [0, 1])] 60 (fun C K R hC hK hR => ?_)
  exact hK _ _ _ _ (l_T_fp (d := d) (S := S) (Z := Z) ht ht8 81 0 0 ve f (by omega) (by omega) (by omega) (Or.inl rfl) hz)
/-! the reference's -/
set_option maxRecDepth 20000 in
theorem l_M_rd {next : Nat → Int32 → (Nat → Int32) → Prop} (ht : S.1 40 = nI t) (ht8 : t ≤ 80) (hnx : ∀ k pl f, next k pl f → z_Run (d + 4) 73 (z_own 8) z_m130.2.1 z_m130.2.2.1 none (fun v h' => z_nar z_m130.2.2.2.1 v ∧ Z v h') 37 [(0, z_p 59), (1, .inl (nI k))] [] (z_H (uS S pl f))) : ∀ m p n f, t < p + m → p ≤ t → n ≤ 100 + p → (∀ q, fpF (gF (S.2 64) t) t m p n = .inl q → q ≤ 1000 → ∀ f, Z (some (.inl (-1000 - nI q))) (z_H (uS S (nI q) f))) → (∀ k, fpF (gF (S.2 64) t) t m p n = .inr k → ∀ pl f, next k pl f) → z_Run (d + 4) 73 (z_own 8) z_m130.2.1 z_m130.2.2.1 none (fun v h' => z_nar z_m130.2.2.2.1 v ∧ Z v h') 7 [(0, z_p 59), (1, .inl (nI n))] [] (z_H (uS S (nI p) f)) := by
  intro m
  induction m with
  | zero => intro p n f h1 h2; omega
  | succ m ih =>
    intro p n f h1 h2 h3 hz1 hz2
    rw [fpF] at hz1 hz2
    refine z_Run_of z_tk130 [(7, [0, 1]), (37, [0, 1])] 60 (fun C K R hC hK hR => ?_)
    conv => whnf
    refine hC _ _ _ _ (s_M_readsStatement (t := t) (p := p) ht ht8 h2 ?_)
    cases hr : rsF (gF (S.2 64) t) p with
    | inl p' =>
      rw [hr] at hz1
      intro f'
      refine And.intro (fun e => absurd rfl e) (fun _ => ?_)
      have := rs_fail h2 hr
      exact hR _ _ ⟨⟨_, rfl, rfl⟩, hz1 p' rfl (by omega) f'⟩
    | inr r =>
      rw [hr] at hz1 hz2
      obtain ⟨⟨i1, i2⟩, -⟩ := rs_inv hr
      intro f' _
      refine And.intro (fun _ => ?_) (fun e => absurd e (by decide))
      by_cases q : r.1 < t
      · have hz1 : ∀ q, (if r.1 < t then fpF (gF (S.2 64) t) t m r.1 (n + 1) else .inr (n + 1)) = .inl q → q ≤ 1000 → ∀ f, Z (some (.inl (-1000 - nI q))) (z_H (uS S (nI q) f)) := hz1
        have hz2 : ∀ k, (if r.1 < t then fpF (gF (S.2 64) t) t m r.1 (n + 1) else .inr (n + 1)) = .inr k → ∀ pl f, next k pl f := hz2
        rw [if_pos q] at hz1 hz2
        refine And.intro (fun _ => ?_) (fun e => absurd (show nI r.1 < S.1 40 by rw [ht]; exact nI_lt q (by omega)) e)
        have := ih r.1 (n + 1) f' (by omega) i2 (by omega) hz1 hz2
        rw [nI_succ] at this
        exact hK _ _ _ _ this
      · have hz2 : ∀ k, (if r.1 < t then fpF (gF (S.2 64) t) t m r.1 (n + 1) else .inr (n + 1)) = .inr k → ∀ pl f, next k pl f := hz2
        rw [if_neg q] at hz2
        refine And.intro (fun e => absurd (show nI r.1 < S.1 40 from e) (by rw [ht]; exact nI_nlt (by omega) (by omega))) (fun _ => ?_)
        have := hnx (n + 1) (nI r.1) f' (hz2 (n + 1) rfl _ _)
        rw [nI_succ] at this
        exact hK _ _ _ _ this
end
