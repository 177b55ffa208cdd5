/-! the reference's reading of a statement, whole -/
theorem rD_y {g : Nat → Int32} {p : Nat} {k : Int32 → Nat → z_RS} (h : isD (g p)) : rD g p k = k (g p - 48) (p + 1) := if_pos h
theorem rD_n {g : Nat → Int32} {p : Nat} {k : Int32 → Nat → z_RS} (h : ¬ isD (g p)) : rD g p k = .inl p := if_neg h
theorem rN_y {g : Nat → Int32} {p : Nat} {k : Int32 → Nat → z_RS} (h : isD (g p)) : rN g p k = k (nmF g p) (nmN g p) := if_pos h
theorem rN_n {g : Nat → Int32} {p : Nat} {k : Int32 → Nat → z_RS} (h : ¬ isD (g p)) : rN g p k = .inl p := if_neg h
theorem rC_y {g : Nat → Int32} {p : Nat} {c : Int32} {k : Nat → z_RS} (h : g p = c) : rC g c p k = k (p + 1) := if_pos h
theorem rC_n {g : Nat → Int32} {p : Nat} {c : Int32} {k : Nat → z_RS} (h : ¬ g p = c) : rC g c p k = .inl p := if_neg h
theorem rK_y {g : Nat → Int32} {p : Nat} {k : Int32 → Nat → z_RS} (h : ¬ kdF (g p) = -2) : rK g p k = k (kdF (g p)) (p + 1) := if_neg h
theorem rK_n {g : Nat → Int32} {p : Nat} {k : Int32 → Nat → z_RS} (h : kdF (g p) = -2) : rK g p k = .inl p := if_pos h
theorem rS_y {g : Nat → Int32} {p : Nat} {k : Int32 → Nat → z_RS} (h : ¬ sdF (g p) = -2) : rS g p k = k (sdF (g p)) (p + 1) := if_neg h
theorem rS_n {g : Nat → Int32} {p : Nat} {k : Int32 → Nat → z_RS} (h : sdF (g p) = -2) : rS g p k = .inl p := if_pos h
def uP (Z : z_Zt) (S : z_S) (ve : Int32) : z_RS → Prop
  | .inl p' => ∀ f, Z (some (.inl 0)) (z_H (uS S (nI p') f))
  | .inr r => ∀ f, tdR ve f r.2.1 r.2.2.1 r.2.2.2 → Z (some (.inl 1)) (z_H (uS S (nI r.1) f))
section
variable {d t p : Nat} {S : z_S} {Z : z_Zt} {ve : Int32} {f : Nat → Int32}
set_option maxRecDepth 20000 in
theorem r_M_rs0 {S' : z_S} (hz : Z (some (.inl 0)) (z_H S')) : z_Run (d + 3) 73 (z_own 8) z_m127.2.1 z_m127.2.2.1 none (fun v h' => z_nar z_m127.2.2.2.1 v ∧ Z v h') 203 [(0, z_p 59), (2, .inl 0)] [] (z_H S') := by
  refine z_Run_of z_tk127 [] 60 (fun C K R hC hK hR => ?_)
  refine And.intro (fun _ => ?_) (fun e => absurd rfl e)
  exact hR _ _ ⟨⟨_, rfl, rfl⟩, hz⟩
set_option maxRecDepth 20000 in
theorem r_M_rs1 {a b c : Int32} (ht : S.1 40 = nI t) (ht8 : t ≤ 80) (hp8 : p ≤ t) (h : uP Z S ve (rC (gF (S.2 64) t) 59 p (fun p => .inr (p, a, b, c)))) (hf : tdR ve f a b c) : z_Run (d + 3) 73 (z_own 8) z_m127.2.1 z_m127.2.2.1 none (fun v h' => z_nar z_m127.2.2.2.1 v ∧ Z v h') 203 [(0, z_p 59), (2, .inl 1)] [] (z_H (uS S (nI p) f)) := by
  unfold rC at h
  refine z_Run_of z_tk127 [] 60 (fun C K R hC hK hR => ?_)
  refine And.intro (fun e => absurd e (by decide)) (fun _ => ?_)
  conv => whnf
  refine hC _ _ _ _ (s_M_takes ht ht8 hp8 (fun e => ?_) (fun e => ?_))
  · rw [if_pos e] at h
    refine And.intro (fun e => absurd e (by decide)) (fun _ => ?_)
    exact hR _ _ ⟨⟨_, rfl, rfl⟩, h f hf⟩
  · rw [if_neg e] at h
    refine And.intro (fun _ => ?_) (fun e => absurd rfl e)
    exact hR _ _ ⟨⟨_, rfl, rfl⟩, h f⟩
set_option maxRecDepth 20000 in
theorem s_M_readsStatement (ht : S.1 40 = nI t) (ht8 : t ≤ 80) (hp8 : p ≤ t) (hz : uP Z S (gF (S.2 64) t p) (rsF (gF (S.2 64) t) p)) : z_EvM (d + 3) 73 127 [z_p 59] (z_H (uS S (nI p) f)) Z := by
  generalize hve : gF (S.2 64) t p = ve at hz
  have hne : ∀ c, ve = c → ¬ c = -1 → p + 1 ≤ t := fun c h1 h2 => g_lt (fun w => h2 (h1.symm.trans (hve.symm.trans w)))
  have main : z_Run (d + 3) 73 (z_own 8) z_m127.2.1 z_m127.2.2.1 none (fun v h' => z_nar z_m127.2.2.2.1 v ∧ Z v h') 17 [(0, z_p 59), (1, .inl ve)] [] (z_H (uS S (nI (p + 1)) f)) := by
    unfold rsF at hz
    rw [hve] at hz
    refine z_Run_of z_tk127 [(203, [0, 2]), (191, [0])] 60 (fun C K R hC hK hR => ?_)
    by_cases h98 : ve = 98
    · rw [if_pos h98] at hz
      have hpt := hne 98 h98 (by decide)
      refine And.intro (fun _ => ?_) (fun e => absurd h98 e)
      conv => whnf
      refine hC _ _ _ _ (s_M_rnD (k := 0) rfl (by omega) ht ht8 hpt (fun hd f1 v1 w1 => ?_) (fun hd f1 => ?_))
      · rw [rD_y hd] at hz
        have hp1 := isD_lt hd
        refine And.intro (fun e => absurd e (by decide)) (fun _ => ?_)
        have hz : uP Z S ve (rC (gF (S.2 64) t) 44 (p + 1 + 1) _) := hz
        conv => whnf
        refine hC _ _ _ _ (s_M_takes ht ht8 hp1 (fun hd2 => ?_) (fun hd2 => ?_))
        · rw [rC_y hd2] at hz
          have hp2 : p + 1 + 1 < t := g_lt (fun w => by rw [w] at hd2; exact absurd hd2 (by decide))
          refine And.intro (fun e => absurd e (by decide)) (fun _ => ?_)
          have hz : uP Z S ve (rN (gF (S.2 64) t) (p + 1 + 1 + 1) _) := hz
          conv => whnf
          refine hC _ _ _ _ (s_M_rnN (k := 1) rfl (by omega) ht ht8 hp2 (fun hd3 f2 v2 w2 => ?_) (fun hd3 f2 => ?_))
          · rw [rN_y hd3] at hz
            refine And.intro (fun e => absurd e (by decide)) (fun _ => ?_)
            exact hK _ _ _ _ (r_M_rs1 ht ht8 (nm_le hd3) hz ⟨(w2 0 (by omega)).trans v1, fun _ => v2, fun h => absurd h (by rw [h98]; decide)⟩)
          · rw [rN_n hd3] at hz
            refine And.intro (fun _ => ?_) (fun e => absurd rfl e)
            exact hK _ _ _ _ (r_M_rs0 (hz f2))
        · rw [rC_n hd2] at hz
          refine And.intro (fun _ => ?_) (fun e => absurd rfl e)
          exact hK _ _ _ _ (r_M_rs0 (hz f1))
      · rw [rD_n hd] at hz
        refine And.intro (fun _ => ?_) (fun e => absurd rfl e)
        exact hK _ _ _ _ (r_M_rs0 (hz f1))
    · rw [if_neg h98] at hz
      refine And.intro (fun e => absurd e h98) (fun _ => ?_)
      by_cases h99 : ve = 99
      · rw [if_pos h99] at hz
        have hpt := hne 99 h99 (by decide)
        refine And.intro (fun _ => ?_) (fun e => absurd h99 e)
        conv => whnf
        refine hC _ _ _ _ (s_M_readsKind ht ht8 hpt (fun hd f1 v1 w1 => ?_) (fun hd f1 => ?_))
        · rw [rK_y hd] at hz
          have hp1 := kd_lt hd
          refine And.intro (fun e => absurd e (by decide)) (fun _ => ?_)
          have hz : uP Z S ve (rN (gF (S.2 64) t) (p + 1 + 1) _) := hz
          conv => whnf
          refine hC _ _ _ _ (s_M_rnN (k := 1) rfl (by omega) ht ht8 hp1 (fun hd3 f2 v2 w2 => ?_) (fun hd3 f2 => ?_))
          · rw [rN_y hd3] at hz
            refine And.intro (fun e => absurd e (by decide)) (fun _ => ?_)
            have hz : uP Z S ve (rC (gF (S.2 64) t) 44 (nmN (gF (S.2 64) t) (p + 1 + 1)) _) := hz
            conv => whnf
            refine hC _ _ _ _ (s_M_takes ht ht8 (nm_le hd3) (fun hd2 => ?_) (fun hd2 => ?_))
            · rw [rC_y hd2] at hz
              have hp2 : nmN (gF (S.2 64) t) (p + 1 + 1) < t := g_lt (fun w => by rw [w] at hd2; exact absurd hd2 (by decide))
              refine And.intro (fun e => absurd e (by decide)) (fun _ => ?_)
              have hz : uP Z S ve (rD (gF (S.2 64) t) (nmN (gF (S.2 64) t) (p + 1 + 1) + 1) _) := hz
              conv => whnf
              refine hC _ _ _ _ (s_M_rnD (k := 2) rfl (by omega) ht ht8 hp2 (fun hd4 f3 v3 w3 => ?_) (fun hd4 f3 => ?_))
              · rw [rD_y hd4] at hz
                refine And.intro (fun e => absurd e (by decide)) (fun _ => ?_)
                exact hK _ _ _ _ (r_M_rs1 ht ht8 (isD_lt hd4) hz ⟨(w3 0 (by omega)).trans ((w2 0 (by omega)).trans v1), fun _ => (w3 1 (by omega)).trans v2, fun _ => v3⟩)
              · rw [rD_n hd4] at hz
                refine And.intro (fun _ => ?_) (fun e => absurd rfl e)
                exact hK _ _ _ _ (r_M_rs0 (hz f3))
            · rw [rC_n hd2] at hz
              refine And.intro (fun _ => ?_) (fun e => absurd rfl e)
              exact hK _ _ _ _ (r_M_rs0 (hz f2))
          · rw [rN_n hd3] at hz
            refine And.intro (fun _ => ?_) (fun e => absurd rfl e)
            exact hK _ _ _ _ (r_M_rs0 (hz f2))
        · rw [rK_n hd] at hz
          refine And.intro (fun _ => ?_) (fun e => absurd rfl e)
          exact hK _ _ _ _ (r_M_rs0 (hz f1))
      · rw [if_neg h99] at hz
        refine And.intro (fun e => absurd e h99) (fun _ => ?_)
        by_cases h115 : ve = 115
        · rw [if_pos h115] at hz
          have hpt := hne 115 h115 (by decide)
          refine And.intro (fun e => absurd (h115.symm.trans e) (by decide)) (fun _ => ?_)
          refine And.intro (fun _ => ?_) (fun e => absurd h115 e)
          conv => whnf
          refine hC _ _ _ _ (s_M_rnD (k := 0) rfl (by omega) ht ht8 hpt (fun hd f1 v1 w1 => ?_) (fun hd f1 => ?_))
          · rw [rD_y hd] at hz
            have hp1 := isD_lt hd
            refine And.intro (fun e => absurd e (by decide)) (fun _ => ?_)
            have hz : uP Z S ve (rS (gF (S.2 64) t) (p + 1 + 1) _) := hz
            conv => whnf
            refine hC _ _ _ _ (s_M_readsSide ht ht8 hp1 (fun hd3 f2 v2 w2 => ?_) (fun hd3 f2 => ?_))
            · rw [rS_y hd3] at hz
              have hp2 := sd_lt hd3
              refine And.intro (fun e => absurd e (by decide)) (fun _ => ?_)
              have hz : uP Z S ve (rD (gF (S.2 64) t) (p + 1 + 1 + 1) _) := hz
              conv => whnf
              refine hC _ _ _ _ (s_M_rnD (k := 2) rfl (by omega) ht ht8 hp2 (fun hd4 f3 v3 w3 => ?_) (fun hd4 f3 => ?_))
              · rw [rD_y hd4] at hz
                refine And.intro (fun e => absurd e (by decide)) (fun _ => ?_)
                exact hK _ _ _ _ (r_M_rs1 ht ht8 (isD_lt hd4) hz ⟨(w3 0 (by omega)).trans ((w2 0 (by omega)).trans v1), fun _ => (w3 1 (by omega)).trans v2, fun _ => v3⟩)
              · rw [rD_n hd4] at hz
                refine And.intro (fun _ => ?_) (fun e => absurd rfl e)
                exact hK _ _ _ _ (r_M_rs0 (hz f3))
            · rw [rS_n hd3] at hz
              refine And.intro (fun _ => ?_) (fun e => absurd rfl e)
              exact hK _ _ _ _ (r_M_rs0 (hz f2))
          · rw [rD_n hd] at hz
            refine And.intro (fun _ => ?_) (fun e => absurd rfl e)
            exact hK _ _ _ _ (r_M_rs0 (hz f1))
        · rw [if_neg h115] at hz
          by_cases h116 : ve = 116 ∨ ve = 111
          · rw [if_pos h116] at hz
            have hpt : p + 1 ≤ t := by
              rcases h116 with w | w
              · exact hne 116 w (by decide)
              · exact hne 111 w (by decide)
            have one : z_Run (d + 3) 73 (z_own 8) z_m127.2.1 z_m127.2.2.1 none (fun v h' => z_nar z_m127.2.2.2.1 v ∧ Z v h') 104 [(0, z_p 59)] [] (z_H (uS S (nI (p + 1)) f)) := by
              refine z_Run_of z_tk127 [(203, [0, 2])] 60 (fun C K R hC hK hR => ?_)
              conv => whnf
              refine hC _ _ _ _ (s_M_rnD (k := 0) rfl (by omega) ht ht8 hpt (fun hd f1 v1 w1 => ?_) (fun hd f1 => ?_))
              · rw [rD_y hd] at hz
                refine hK _ _ _ _ (r_M_rs1 ht ht8 (isD_lt hd) hz ⟨v1, fun h => ?_, fun h => ?_⟩)
                · exact absurd h (fun w => w.elim h98 (fun w => w.elim h99 h115))
                · exact absurd h (fun w => w.elim h99 h115)
              · rw [rD_n hd] at hz
                exact hK _ _ _ _ (r_M_rs0 (hz f1))
            refine And.intro (fun e => ?_) (fun e111 => And.intro (fun e => absurd e h115) (fun _ => And.intro (fun e => ?_) (fun e => ?_)))
            · conv => whnf
              refine hC _ _ _ _ (s_M_rnD (k := 0) rfl (by omega) ht ht8 hpt (fun hd f1 v1 w1 => ?_) (fun hd f1 => ?_))
              · rw [rD_y hd] at hz
                refine hK _ _ _ _ (r_M_rs1 ht ht8 (isD_lt hd) hz ⟨v1, fun h => ?_, fun h => ?_⟩)
                · exact absurd h (fun w => w.elim h98 (fun w => w.elim h99 h115))
                · exact absurd h (fun w => w.elim h99 h115)
              · rw [rD_n hd] at hz
                exact hK _ _ _ _ (r_M_rs0 (hz f1))
            · conv => whnf
              refine hC _ _ _ _ (s_M_rnD (k := 0) rfl (by omega) ht ht8 hpt (fun hd f1 v1 w1 => ?_) (fun hd f1 => ?_))
              · rw [rD_y hd] at hz
                refine hK _ _ _ _ (r_M_rs1 ht ht8 (isD_lt hd) hz ⟨v1, fun h => ?_, fun h => ?_⟩)
                · exact absurd h (fun w => w.elim h98 (fun w => w.elim h99 h115))
                · exact absurd h (fun w => w.elim h99 h115)
              · rw [rD_n hd] at hz
                exact hK _ _ _ _ (r_M_rs0 (hz f1))
            · rcases h116 with w | w
              · exact absurd w e
              · exact absurd w e111
          · rw [if_neg h116] at hz
            refine And.intro (fun e => absurd (Or.inr e) h116) (fun _ => And.intro (fun e => absurd e h115) (fun _ => And.intro (fun e => absurd (Or.inl e) h116) (fun _ => ?_)))
            have h := hz f
            have back : z_Run (d + 3) 73 (z_own 8) z_m127.2.1 z_m127.2.2.1 none (fun v h' => z_nar z_m127.2.2.2.1 v ∧ Z v h') 191 [(0, z_p 59)] [] (z_H (uS S (nI (p + 1)) f)) := by
              have e : nI p = nI (p + 1) - 1 := by rw [nI_succ]; grind
              rw [e, ← uS_pl (pl := nI (p + 1))] at h
              refine z_Run_of z_tk127 [] 60 (fun C K R hC hK hR => ?_)
              exact hR _ _ ⟨⟨_, rfl, rfl⟩, h⟩
            exact hK _ _ _ _ back
  refine z_go (c := 8) (t := z_t127) rfl rfl rfl z_tk127 [(17, [0, 1])] 60 (fun C K R hC hK hR => ?_)
  conv => whnf
  refine hC _ _ _ _ (s_M_sign (S := uS S (nI p) f) (p := p) ht ht8 rfl (by omega) ?_)
  rw [nI_succ, ← uS_pl (pl := nI p), ← hve] at main
  exact hK _ _ _ _ main
end
