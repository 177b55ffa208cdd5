/-! calls about children and seats -/
theorem op_child (c v : Int32) : z_op 65 132 [.inl c, .inl v] := by
  intro S hI Z hz
  obtain ⟨n, g, u, t, w, hok, hRl, -⟩ := id hI
  obtain ⟨⟨hn, hc⟩, -⟩ := hok
  refine z_go (c := 7) (t := z_t65) rfl rfl rfl z_tk65 [] 100 (fun C K R hC hK hR => ?_)
  conv => whnf
  refine hC _ _ _ _ (s_B0_hasChildP hc hn (fun r hr => ?_))
  refine And.intro (fun e => ?_) (fun e => ?_)
  · obtain ⟨k, hk, rfl⟩ := zb_t hr e
    have hcl : (nI k).toNatClampNeg = k := nI_clamp (by omega)
    have hin : vp_in (nI k) 5 := vp_in_nI (by omega) (by omega)
    have ref : ∀ j, j < 3 → v = nI j → ∀ Z2 : z_Zt, (∀ (b : Int32) (S2 : z_S), b = (dN S).2 j k → Inv S2 → Z2 (some (.inl b)) (z_H S2)) → z_EvM 600 73 132 [z_p 59, .inl (nI k), .inl v] (z_H S) Z2 := by
      intro j hj hv Z2 hz2
      subst hv
      refine z_go (c := 8) (t := z_t132) rfl rfl rfl z_tk132 [] 100 (fun C K R hC hK hR => ?_)
      conv => whnf
      refine hC _ _ _ _ (s_M_isKidP hRl hc hn (fun r2 hr2 => ?_))
      refine And.intro (fun e2 => ?_) (fun e2 => absurd ⟨k, hk, rfl⟩ (zb_f hr2 e2))
      conv => whnf
      refine hC _ _ _ _ (s_M_isInP 3 (by omega) rfl (fun r3 hr3 => ?_))
      refine And.intro (fun e3 => absurd ⟨j, hj, rfl⟩ (zb_f hr3 e3)) (fun e3 => ?_)
      conv => whnf
      refine hC _ _ _ _ (s_M_kidN hRl (by omega) j (by omega) rfl ?_)
      exact hR _ _ ⟨_, rfl, rfl⟩ (hz2 _ S rfl hI)
    refine And.intro (fun q => ?_) (fun q0 => And.intro (fun q => ?_) (fun q1 => And.intro (fun q => ?_) (fun q2 => ?_)))
    · refine And.intro hin ?_
      refine hR _ _ ⟨_, rfl, rfl⟩ (hz _ S (fun Z2 hz2 => ref 0 (by omega) q Z2 (fun b S2 hb => hz2 b S2 (by rw [hb, hcl]; rfl))))
    · refine And.intro hin ?_
      refine hR _ _ ⟨_, rfl, rfl⟩ (hz _ S (fun Z2 hz2 => ref 1 (by omega) q Z2 (fun b S2 hb => hz2 b S2 (by rw [hb, hcl]; rfl))))
    · refine And.intro hin ?_
      refine hR _ _ ⟨_, rfl, rfl⟩ (hz _ S (fun Z2 hz2 => ref 2 (by omega) q Z2 (fun b S2 hb => hz2 b S2 (by rw [hb, hcl]; rfl))))
    · conv => whnf
      refine hC _ _ _ _ (s_X_refuse 2 (by omega) rfl ?_)
      refine hR _ _ ⟨_, rfl, rfl⟩ (hz _ (z_rx S 2) (fun Z2 hz2 => ?_))
      refine z_go (c := 8) (t := z_t132) rfl rfl rfl z_tk132 [] 100 (fun C K R hC hK hR => ?_)
      conv => whnf
      refine hC _ _ _ _ (s_M_isKidP hRl hc hn (fun r2 hr2 => ?_))
      refine And.intro (fun e2 => ?_) (fun e2 => absurd ⟨k, hk, rfl⟩ (zb_f hr2 e2))
      conv => whnf
      refine hC _ _ _ _ (s_M_isInP 3 (by omega) rfl (fun r3 hr3 => ?_))
      refine And.intro (fun e3 => ?_) (fun e3 => ?_)
      · conv => whnf
        refine hC _ _ _ _ (s_M_refuse (k := 2) (by omega) rfl ?_)
        exact hR _ _ ⟨_, rfl, rfl⟩ (hz2 _ _ rfl (Inv_ref hI (by omega)))
      · exfalso
        obtain ⟨j, hj, hv⟩ := zb_t hr3 e3
        rcases j with _ | _ | _ | j
        · exact q0 hv
        · exact q1 hv
        · exact q2 hv
        · omega
  · have hno := zb_f hr e
    conv => whnf
    refine hC _ _ _ _ (s_X_refuse 1 (by omega) rfl ?_)
    refine hR _ _ ⟨_, rfl, rfl⟩ (hz _ (z_rx S 1) (fun Z2 hz2 => ?_))
    refine z_go (c := 8) (t := z_t132) rfl rfl rfl z_tk132 [] 100 (fun C K R hC hK hR => ?_)
    conv => whnf
    refine hC _ _ _ _ (s_M_isKidP hRl hc hn (fun r2 hr2 => ?_))
    refine And.intro (fun e2 => absurd (zb_t hr2 e2) hno) (fun e2 => ?_)
    conv => whnf
    refine hC _ _ _ _ (s_M_refuse (k := 1) (by omega) rfl ?_)
    exact hR _ _ ⟨_, rfl, rfl⟩ (hz2 _ _ rfl (Inv_ref hI (by omega)))
theorem op_seat (c : Int32) : z_op 66 133 [.inl c] := by
  intro S hI Z hz
  obtain ⟨n, g, u, t, w, hok, hRl, -⟩ := id hI
  obtain ⟨⟨hn, hc⟩, -⟩ := hok
  refine z_go (c := 7) (t := z_t66) rfl rfl rfl z_tk66 [] 100 (fun C K R hC hK hR => ?_)
  conv => whnf
  refine hC _ _ _ _ (s_B0_hasChildP hc hn (fun r hr => ?_))
  refine And.intro (fun e => ?_) (fun e => ?_)
  · obtain ⟨k, hk, rfl⟩ := zb_t hr e
    have hcl : (nI k).toNatClampNeg = k := nI_clamp (by omega)
    have hin : vp_in (nI k) 5 := vp_in_nI (by omega) (by omega)
    conv => whnf
    refine hC _ _ _ _ (s_B0_sitsP hc hn hk (fun r2 hr2 => ?_))
    refine And.intro (fun e2 => ?_) (fun e2 => ?_)
    · have h0 : S.2 8 k = 0 := Decidable.not_not.mp (zb_f hr2 e2)
      refine hR _ _ ⟨_, rfl, rfl⟩ (hz _ S (fun Z2 hz2 => ?_))
      refine z_go (c := 8) (t := z_t133) rfl rfl rfl z_tk133 [] 100 (fun C K R hC hK hR => ?_)
      conv => whnf
      refine hC _ _ _ _ (s_M_isKidP hRl hc hn (fun r3 hr3 => ?_))
      refine And.intro (fun e3 => ?_) (fun e3 => absurd ⟨k, hk, rfl⟩ (zb_f hr3 e3))
      conv => whnf
      refine hC _ _ _ _ (s_M_seatN hRl (by omega) ?_)
      refine And.intro (fun e4 => absurd h0 e4) (fun e4 => ?_)
      exact hR _ _ ⟨_, rfl, rfl⟩ (hz2 _ S rfl hI)
    · have h0 := zb_t hr2 e2
      refine And.intro hin ?_
      refine hR _ _ ⟨_, rfl, rfl⟩ (hz _ S (fun Z2 hz2 => ?_))
      refine z_go (c := 8) (t := z_t133) rfl rfl rfl z_tk133 [] 100 (fun C K R hC hK hR => ?_)
      conv => whnf
      refine hC _ _ _ _ (s_M_isKidP hRl hc hn (fun r3 hr3 => ?_))
      refine And.intro (fun e3 => ?_) (fun e3 => absurd ⟨k, hk, rfl⟩ (zb_f hr3 e3))
      conv => whnf
      refine hC _ _ _ _ (s_M_seatN hRl (by omega) ?_)
      refine And.intro (fun e4 => ?_) (fun e4 => absurd e4 h0)
      conv => whnf
      refine hC _ _ _ _ (s_M_seatN hRl (by omega) ?_)
      exact hR _ _ ⟨_, rfl, rfl⟩ (hz2 _ S (by rw [hcl]; rfl) hI)
  · have hno := zb_f hr e
    conv => whnf
    refine hC _ _ _ _ (s_X_refuseApart 1 (by omega) rfl ?_)
    refine hR _ _ ⟨_, rfl, rfl⟩ (hz _ (z_rx S 1) (fun Z2 hz2 => ?_))
    refine z_go (c := 8) (t := z_t133) rfl rfl rfl z_tk133 [] 100 (fun C K R hC hK hR => ?_)
    conv => whnf
    refine hC _ _ _ _ (s_M_isKidP hRl hc hn (fun r2 hr2 => ?_))
    refine And.intro (fun e2 => absurd (zb_t hr2 e2) hno) (fun e2 => ?_)
    conv => whnf
    refine hC _ _ _ _ (s_M_refuse (k := 1) (by omega) rfl ?_)
    exact hR _ _ ⟨_, rfl, rfl⟩ (hz2 _ _ rfl (Inv_ref hI (by omega)))
theorem op_sit (c x : Int32) : z_op 67 135 [.inl c, .inl x] := by
  intro S hI Z hz
  obtain ⟨n, g, u, t, w, hok, hRl, him, htx, hrw, hrf, hpl⟩ := id hI
  obtain ⟨⟨hn, hc⟩, hg, hu, hL, hO, hN, hf, hwe, hdi, hgu⟩ := id hok
  have nob : ¬ (isN c n ∧ (x = 0 ∨ sP (S.1 0) x)) → ∀ Z2 : z_Zt, (∀ (b : Int32) (S2 : z_S), b = -1 → Inv S2 → Z2 (some (.inl b)) (z_H S2)) → z_EvM 600 73 135 [z_p 59, .inl c, .inl x] (z_H (z_rx S 1)) Z2 := by
    intro hno Z2 hz2
    refine z_go (c := 8) (t := z_t135) rfl rfl rfl z_tk135 [] 100 (fun C K R hC hK hR => ?_)
    conv => whnf
    refine hC _ _ _ _ (s_M_isKidP hRl hc hn (fun r2 hr2 => ?_))
    refine And.intro (fun e2 => ?_) (fun e2 => ?_)
    · refine And.intro (fun e => absurd e (by decide)) (fun _ => ?_)
      conv => whnf
      refine hC _ _ _ _ (s_M_refuse (k := 1) (by omega) rfl ?_)
      exact hR _ _ ⟨_, rfl, rfl⟩ (hz2 _ _ rfl (Inv_ref hI (by omega)))
    · refine And.intro (fun e3 => absurd ⟨zb_t hr2 e2, Or.inl e3⟩ hno) (fun e3 => ?_)
      conv => whnf
      refine hC _ _ _ _ (s_M_isSeatP hRl (fun r3 hr3 => ?_))
      refine And.intro (fun e4 => absurd ⟨zb_t hr2 e2, Or.inr (zb_t hr3 e4)⟩ hno) (fun e4 => ?_)
      refine And.intro (fun e => absurd e (by decide)) (fun _ => ?_)
      conv => whnf
      refine hC _ _ _ _ (s_M_refuse (k := 1) (by omega) rfl ?_)
      exact hR _ _ ⟨_, rfl, rfl⟩ (hz2 _ _ rfl (Inv_ref hI (by omega)))
  refine z_go (c := 7) (t := z_t67) rfl rfl rfl z_tk67 [] 100 (fun C K R hC hK hR => ?_)
  conv => whnf
  refine hC _ _ _ _ (s_B0_hasChildP hc hn (fun r hr => ?_))
  refine And.intro (fun e => ?_) (fun e => ?_)
  · conv => whnf
    refine hC _ _ _ _ (s_X_refuse 1 (by omega) rfl ?_)
    refine hR _ _ ⟨_, rfl, rfl⟩ (hz _ (z_rx S 1) (fun Z2 hz2 => ?_))
    exact nob (fun z => zb_f hr e z.1) Z2 hz2
  · obtain ⟨k, hk, rfl⟩ := zb_t hr e
    have hcl : (nI k).toNatClampNeg = k := nI_clamp (by omega)
    have hin : vp_in (nI k) 5 := vp_in_nI (by omega) (by omega)
    have fin : ∀ (hx : x = 0 ∨ (sP (S.1 0) x ∧ ∀ i, i < n → ¬ i = k → ¬ S.2 8 i = x)) (a : Int32), z_b a (¬ S.2 8 k = 0) → ∀ Z2 : z_Zt, (∀ (b : Int32) (S2 : z_S), b = a → Inv S2 → Z2 (some (.inl b)) (z_H S2)) → z_EvM 600 73 135 [z_p 59, .inl (nI k), .inl x] (z_H (z_w S 8 (upd (S.2 8) (nI k).toNatClampNeg x))) Z2 := by
      intro hx a ha Z2 hz2
      rw [hcl]
      have hIv : Inv (z_w (z_w S 8 (upd (S.2 8) k x)) 61 (upd (S.2 61) ((6 : Int32) + 4 * nI k + 3).toNatClampNeg x)) := by
        have hx6 : -6 ≤ x ∧ x ≤ 6 := by
          rcases hx with hx | hx
          · rw [hx]; decide
          · exact sP_in hL.2 hL.1 hx.1
        refine ⟨n, g, u, t, w, ⟨⟨hn, hc⟩, hg, hu, hL, hO, hN, fe_upd hf hx6.1 hx6.2, hwe, di_upd hdi (hx.imp id (fun z => z.2)), hgu⟩, ?_, him, htx, hrw, hrf, hpl⟩
        have e1 : ((6 : Int32) + 4 * nI k + 3).toNatClampNeg = 6 + 4 * k + 3 := kidx (j := 3) (by omega) (by omega)
        show z_Rl (upd (S.2 61) ((6 : Int32) + 4 * nI k + 3).toNatClampNeg x) _
        rw [e1]
        exact Rl_kid hRl k 3 (by omega) (by omega) x rfl (fun i hi => by rcases i with _ | _ | _ | _ | _ | _ | i <;> first | rfl | omega) (fun r hr hne => by rcases r with _ | _ | _ | _ | _ | _ | _ | _ | _ | _ | _ | r <;> first | rfl | omega)
      have hkidok : isN (nI k) n := ⟨k, hk, rfl⟩
      have hfin : ∀ b, z_b b (¬ S.2 8 k = 0) → Z2 (some (.inl b)) (z_H (z_w (z_w S 8 (upd (S.2 8) k x)) 61 (upd (S.2 61) ((6 : Int32) + 4 * nI k + 3).toNatClampNeg x))) := by
        intro b hb
        refine hz2 b _ ?_ hIv
        by_cases q : S.2 8 k = 0
        · rw [zb_0 hb (fun z => z q), zb_0 ha (fun z => z q)]
        · rw [zb_1 hb q, zb_1 ha q]
      have hRl2 : z_Rl ((z_w S 8 (upd (S.2 8) k x)).2 61) (dN S) := hRl
      refine z_go (c := 8) (t := z_t135) rfl rfl rfl z_tk135 [] 100 (fun C K R hC hK hR => ?_)
      conv => whnf
      refine hC _ _ _ _ (s_M_isKidP (S := z_w S 8 (upd (S.2 8) k x)) hRl2 hc hn (fun r2 hr2 => ?_))
      refine And.intro (fun e2 => absurd hkidok (zb_f hr2 e2)) (fun e2 => ?_)
      refine And.intro (fun e3 => ?_) (fun e3 => ?_)
      · subst e3
        conv => whnf
        refine hC _ _ _ _ (s_M_who0 (S := z_w S 8 (upd (S.2 8) k 0)) hRl2 hc hn ?_)
        refine And.intro (fun _ => ?_) (fun e => absurd (by decide) e)
        refine And.intro (fun _ => ?_) (fun e => absurd rfl e)
        conv => whnf
        refine hC _ _ _ _ (s_M_seatN (S := z_w S 8 (upd (S.2 8) k 0)) hRl2 (by omega) ?_)
        refine And.intro (fun e5 => ?_) (fun e5 => ?_)
        · refine And.intro (kidv (j := 3) (by omega) (by omega)) ?_
          exact hR _ _ ⟨_, rfl, rfl⟩ (hfin _ (Or.inl ⟨rfl, e5⟩))
        · refine And.intro (kidv (j := 3) (by omega) (by omega)) ?_
          exact hR _ _ ⟨_, rfl, rfl⟩ (hfin _ (Or.inr ⟨rfl, fun z => z e5⟩))
      · have hs : sP (S.1 0) x ∧ ∀ i, i < n → ¬ i = k → ¬ S.2 8 i = x := hx.resolve_left e3
        conv => whnf
        refine hC _ _ _ _ (s_M_isSeatP (S := z_w S 8 (upd (S.2 8) k x)) hRl2 (fun r3 hr3 => ?_))
        refine And.intro (fun e4 => ?_) (fun e4 => absurd hs.1 (zb_f hr3 e4))
        conv => whnf
        refine hC _ _ _ _ (s_M_whoP (S := z_w S 8 (upd (S.2 8) k x)) hRl2 hc hn e3 (fun r4 hr4 => ?_))
        rcases hr4 with ⟨i, hi, rfl, h0, hfi, -⟩ | ⟨rfl, h0, -⟩
        · refine And.intro (fun e => absurd e h0) (fun _ => ?_)
          have hik : i = k := by
            by_cases q : i = k
            · exact q
            · exact absurd hfi (hs.2 i hi q)
          subst hik
          conv => whnf
          refine hC _ _ _ _ (s_M_whoP (S := z_w S 8 (upd (S.2 8) i x)) hRl2 hc hn e3 (fun r5 hr5 => ?_))
          rcases hr5 with ⟨i2, hi2, rfl, -, hfi2, -⟩ | ⟨rfl, h02, h03⟩
          · have hik2 : i2 = i := by
              by_cases q : i2 = i
              · exact q
              · exact absurd hfi2 (hs.2 i2 hi2 q)
            subst hik2
            refine And.intro (fun _ => ?_) (fun e => absurd rfl e)
            refine And.intro (fun _ => ?_) (fun e => absurd rfl e)
            conv => whnf
            refine hC _ _ _ _ (s_M_seatN (S := z_w S 8 (upd (S.2 8) i2 x)) hRl2 (by omega) ?_)
            refine And.intro (fun e5 => ?_) (fun e5 => ?_)
            · refine And.intro (kidv (j := 3) (by omega) (by omega)) ?_
              exact hR _ _ ⟨_, rfl, rfl⟩ (hfin _ (Or.inl ⟨rfl, e5⟩))
            · refine And.intro (kidv (j := 3) (by omega) (by omega)) ?_
              exact hR _ _ ⟨_, rfl, rfl⟩ (hfin _ (Or.inr ⟨rfl, fun z => z e5⟩))
          · exact absurd hfi (h03 i hi)
        · refine And.intro (fun _ => ?_) (fun e => absurd h0 e)
          refine And.intro (fun _ => ?_) (fun e => absurd rfl e)
          conv => whnf
          refine hC _ _ _ _ (s_M_seatN (S := z_w S 8 (upd (S.2 8) k x)) hRl2 (by omega) ?_)
          refine And.intro (fun e5 => ?_) (fun e5 => ?_)
          · refine And.intro (kidv (j := 3) (by omega) (by omega)) ?_
            exact hR _ _ ⟨_, rfl, rfl⟩ (hfin _ (Or.inl ⟨rfl, e5⟩))
          · refine And.intro (kidv (j := 3) (by omega) (by omega)) ?_
            exact hR _ _ ⟨_, rfl, rfl⟩ (hfin _ (Or.inr ⟨rfl, fun z => z e5⟩))
    have st : (¬ x = 0 → ∃ i, i < n ∧ ¬ i = k ∧ S.2 8 i = x) → ¬ x = 0 → sP (S.1 0) x → ∀ Z2 : z_Zt, (∀ (b : Int32) (S2 : z_S), b = -3 → Inv S2 → Z2 (some (.inl b)) (z_H S2)) → z_EvM 600 73 135 [z_p 59, .inl (nI k), .inl x] (z_H (z_rx S 3)) Z2 := by
      intro hex hx hsp Z2 hz2
      obtain ⟨i, hi, hik, hfi⟩ := hex hx
      refine z_go (c := 8) (t := z_t135) rfl rfl rfl z_tk135 [] 100 (fun C K R hC hK hR => ?_)
      conv => whnf
      refine hC _ _ _ _ (s_M_isKidP hRl hc hn (fun r2 hr2 => ?_))
      refine And.intro (fun e2 => absurd ⟨k, hk, rfl⟩ (zb_f hr2 e2)) (fun e2 => ?_)
      refine And.intro (fun e3 => absurd e3 hx) (fun e3 => ?_)
      conv => whnf
      refine hC _ _ _ _ (s_M_isSeatP hRl (fun r3 hr3 => ?_))
      refine And.intro (fun e4 => ?_) (fun e4 => absurd hsp (zb_f hr3 e4))
      conv => whnf
      refine hC _ _ _ _ (s_M_whoP hRl hc hn hx (fun r4 hr4 => ?_))
      rcases hr4 with ⟨i1, hi1, rfl, h0, hfi1, -⟩ | ⟨rfl, h0, hno⟩
      · refine And.intro (fun e => absurd e h0) (fun _ => ?_)
        conv => whnf
        refine hC _ _ _ _ (s_M_whoP hRl hc hn hx (fun r5 hr5 => ?_))
        rcases hr5 with ⟨i2, hi2, rfl, h02, hfi2, -⟩ | ⟨rfl, h02, hno⟩
        · have hne : ¬ nI i2 = nI k := by
            intro q
            have q2 : i2 = k := (nI_eq (by omega) (by omega)).mp q
            subst q2
            have := hdi i2 i (by omega) hi (fun z => hik z.symm) (hfi2.trans hfi.symm)
            exact hx (hfi2.symm.trans this)
          refine And.intro (fun e => absurd e hne) (fun _ => ?_)
          refine And.intro (fun e => absurd e (by decide)) (fun _ => ?_)
          conv => whnf
          refine hC _ _ _ _ (s_M_refuse (k := 3) (by omega) rfl ?_)
          exact hR _ _ ⟨_, rfl, rfl⟩ (hz2 _ _ rfl (Inv_ref hI (by omega)))
        · exact absurd hfi (hno i hi)
      · exact absurd hfi (hno i hi)
    refine And.intro (fun ex => ?_) (fun ex => ?_)
    · refine And.intro (fun _ => ?_) (fun e => absurd ex e)
      conv => whnf
      refine hC _ _ _ _ (s_B0_sitsP hc hn hk (fun r2 hr2 => ?_))
      refine And.intro (fun e2 => ?_) (fun e2 => ?_)
      · refine And.intro hin ?_
        refine hR _ _ ⟨_, rfl, rfl⟩ (hz 0 (z_w S 8 (upd (S.2 8) (nI k).toNatClampNeg x)) (fun Z2 hz2 => fin (Or.inl ex) 0 (Or.inr ⟨rfl, zb_f hr2 e2⟩) Z2 hz2))
      · refine And.intro hin ?_
        refine hR _ _ ⟨_, rfl, rfl⟩ (hz 1 (z_w S 8 (upd (S.2 8) (nI k).toNatClampNeg x)) (fun Z2 hz2 => fin (Or.inl ex) 1 (Or.inl ⟨rfl, zb_t hr2 e2⟩) Z2 hz2))
    · conv => whnf
      refine hC _ _ _ _ (s_B0_hasSeatP (fun r2 hr2 => ?_))
      refine And.intro (fun e2 => ?_) (fun e2 => ?_)
      · have hsp := zb_t hr2 e2
        refine And.intro (fun e => absurd e ex) (fun _ => ?_)
        conv => whnf
        refine hC _ _ _ _ (s_B0_isTakenByOther hc hn (fun r3 hr3 => ?_))
        refine And.intro (fun e3 => ?_) (fun e3 => ?_)
        · have hfr : ∀ i, i < n → ¬ i = k → ¬ S.2 8 i = x := fun i hi hik q => zb_f hr3 e3 ⟨i, hi, fun z => hik ((nI_eq (by omega) (by omega)).mp z), q⟩
          conv => whnf
          refine hC _ _ _ _ (s_B0_sitsP hc hn hk (fun r4 hr4 => ?_))
          refine And.intro (fun e4 => ?_) (fun e4 => ?_)
          · refine And.intro hin ?_
            refine hR _ _ ⟨_, rfl, rfl⟩ (hz 0 (z_w S 8 (upd (S.2 8) (nI k).toNatClampNeg x)) (fun Z2 hz2 => fin (Or.inr ⟨hsp, hfr⟩) 0 (Or.inr ⟨rfl, zb_f hr4 e4⟩) Z2 hz2))
          · refine And.intro hin ?_
            refine hR _ _ ⟨_, rfl, rfl⟩ (hz 1 (z_w S 8 (upd (S.2 8) (nI k).toNatClampNeg x)) (fun Z2 hz2 => fin (Or.inr ⟨hsp, hfr⟩) 1 (Or.inl ⟨rfl, zb_t hr4 e4⟩) Z2 hz2))
        · obtain ⟨i, hi, hik, hfi⟩ := zb_t hr3 e3
          conv => whnf
          refine hC _ _ _ _ (s_X_refuse 3 (by omega) rfl ?_)
          refine hR _ _ ⟨_, rfl, rfl⟩ (hz _ (z_rx S 3) (fun Z2 hz2 => ?_))
          exact st (fun _ => ⟨i, hi, fun z => hik (by rw [z]), hfi⟩) ex hsp Z2 hz2
      · conv => whnf
        refine hC _ _ _ _ (s_X_refuse 1 (by omega) rfl ?_)
        refine hR _ _ ⟨_, rfl, rfl⟩ (hz _ (z_rx S 1) (fun Z2 hz2 => ?_))
        refine nob (fun z => ?_) Z2 hz2
        rcases z.2 with z | z
        · exact ex z
        · exact zb_f hr2 e2 z
