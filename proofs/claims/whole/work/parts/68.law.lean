/-! THE LAW, from its entry -/
def z_cl (g : z_G) : Nat → List z_C → va_W
  | _, [] => []
  | k, e :: t => (g.2.2 k, z_ce g.2.1 g.2.2 e) :: z_cl g (k + 1) t
theorem z_cl_eq (g : z_G) : ∀ (h : List z_C) (n : Nat), h.mapIdx (fun k e => (g.2.2 (n + k), z_ce g.2.1 g.2.2 e)) = z_cl g n h
  | [], _ => rfl
  | e :: t, n => by
    rw [List.mapIdx_cons]
    show (g.2.2 (n + 0), z_ce g.2.1 g.2.2 e) :: _ = (g.2.2 n, z_ce g.2.1 g.2.2 e) :: z_cl g (n + 1) t
    rw [← z_cl_eq g t (n + 1)]
    congr 1
    refine congrArg (fun f => List.mapIdx f t) (funext fun k => funext fun e => ?_)
    rw [show n + 1 + k = n + (k + 1) by omega]
theorem z_cw_cl (g : z_G) (h : List z_C) : z_cw g h = z_cl g 0 h := by
  rw [← z_cl_eq g h 0]
  unfold z_cw
  refine congrArg (fun f => List.mapIdx f h) (funext fun k => funext fun e => ?_)
  rw [Nat.zero_add]
/-- places to addresses: the cells, the script, the texts and their rows, the static -/
def k_ad (qs : List Nat) (b : Nat) (adK adV : Nat → Nat) (fm : Nat) (k : Nat) : Nat := bif Nat.blt k 73 then qs.getD k 0 else bif Nat.beq k 999999 then b else bif Nat.blt k 2000000 then adK (k - 1000000) else bif Nat.blt k 3000000 then adV (k - 2000000) else fm
theorem k_adK {qs : List Nat} {b : Nat} {adK adV : Nat → Nat} {fm i : Nat} (hi : i < 5) : k_ad qs b adK adV fm (1000000 + i) = adK i := by
  match i, hi with
  | 0, _ => rfl
  | 1, _ => rfl
  | 2, _ => rfl
  | 3, _ => rfl
  | 4, _ => rfl
  | n + 5, h => exact absurd h (by omega)
theorem k_adV {qs : List Nat} {b : Nat} {adK adV : Nat → Nat} {fm i : Nat} (hi : i < 5) : k_ad qs b adK adV fm (2000000 + i) = adV i := by
  match i, hi with
  | 0, _ => rfl
  | 1, _ => rfl
  | 2, _ => rfl
  | 3, _ => rfl
  | 4, _ => rfl
  | n + 5, h => exact absurd h (by omega)
theorem k_lit {D : va_G} {ci : z_I} {qs : List Nat} {b : Nat} {adK adV : Nat → Nat} {fm : Nat} {A : Nat → Prop} {s : State} {H : Heap} (h1 : vk_S 5 z_len z_byt adK adV A s H) (h2 : ∀ i, i < 5 → vk_R RX6 (z_ix i) (z_tx i) (adK i) s) (h3 : va_Z "java/lang/String" "COMPACT_STRINGS" "Z" (.int 1) A s H) (h4 : va_Z "jdk/internal/util/Preconditions" "SIOOBE_FORMATTER" "Ljava/util/function/BiFunction;" .null A s H ∨ va_Z "jdk/internal/util/Preconditions" "SIOOBE_FORMATTER" "Ljava/util/function/BiFunction;" (.ref fm) A s H) (h5 : ∀ q ∈ z_nst, va_Nw (.methodLinkNest q.1 q.2.1 q.2.2.1 q.2.2.2) s) : z_lit (D, ci, k_ad qs b adK adV fm) A s H := by
  refine ⟨⟨fun i hi => ?_, fun i j hi hj e => ?_⟩, fun i hi => ?_, h3, h4, h5⟩
  · show va_O _ (k_ad qs b adK adV fm (1000000 + i)) A s H ∧ va_OF _ _ _ _ (k_ad qs b adK adV fm (1000000 + i)) A s H ∧ va_OF _ _ _ (.ref (k_ad qs b adK adV fm (2000000 + i))) (k_ad qs b adK adV fm (1000000 + i)) A s H ∧ va_T _ (k_ad qs b adK adV fm (2000000 + i)) _ _ A s H
    rw [k_adK hi, k_adV hi]
    exact h1.1 i hi
  · have e2 : k_ad qs b adK adV fm (1000000 + i) = k_ad qs b adK adV fm (1000000 + j) := e
    rw [k_adK hi, k_adK hj] at e2
    exact h1.2 i j hi hj e2
  · show vk_R RX6 (z_ix i) (z_tx i) (k_ad qs b adK adV fm (1000000 + i)) s
    rw [k_adK hi]
    exact h2 i hi
theorem k_o45 {ad : Nat → Nat} {q : Nat} (h0 : ad 46 = q + 1) (h1 : ad 47 = q + 2) (h2 : ad 48 = q + 3) (h3 : ad 49 = q + 4) (h4 : ad 50 = q + 5) : (fun j => (if j < 5 then some (46 + j) else none : Option Nat).map ad) = k_out q := by
  funext j
  match j with
  | 0 => show some (ad 46) = some (q + 1 + 0); rw [h0]
  | 1 => show some (ad 47) = some (q + 1 + 1); rw [h1]
  | 2 => show some (ad 48) = some (q + 1 + 2); rw [h2]
  | 3 => show some (ad 49) = some (q + 1 + 3); rw [h3]
  | 4 => show some (ad 50) = some (q + 1 + 4); rw [h4]
  | n + 5 =>
    unfold k_out
    rw [if_neg (by omega), if_neg (by omega)]
    rfl
set_option maxHeartbeats 4000000 in
set_option maxRecDepth 100000 in
theorem k_world {D : va_G} {ci : z_I} {b fm : Nat} {adK adV : Nat → Nat} {x0 x1 x2 x3 x4 x5 x6 x7 x8 x9 x10 x11 x12 x13 x14 x15 x16 x17 x18 x19 x20 x21 x22 x23 x24 x25 x26 x27 x28 x29 x30 x31 x32 x33 x34 x35 x36 x37 x38 x39 x40 x41 x42 x43 x44 x45 x46 x47 x48 x49 x50 x51 x52 x53 m0 m1 m2 m3 m4 m5 m6 m7 m8 m9 m10 m11 m12 m13 : Nat} : z_cw (D, ci, k_ad [x0, x1, x2, x3, x4, x5, x6, x7, x8, x9, x10, x11, x12, x13, x14, x15, x16, x17, x18, x19, x20, x21, x22, x23, x24, x25, x26, x27, x28, x29, x30, x31, x32, x33, x34, x35, x36, x37, x38, x39, x40, x41, x42, x43, x44, x45, x45 + 1, x45 + 2, x45 + 3, x45 + 4, x45 + 5, x46, x47, x48, x49, x50, x51, x52, x53, m0, m1, m2, m3, m4, m5, m6, m7, m8, m9, m10, m11, m12, m13] b adK adV fm) (z_H S0) = [(x0, .inr (7, [.ref x1, .ref x4, .ref x9, .ref x14, .ref x19, .ref x26, .ref x33, .ref x37, .ref x41, .ref x46, .ref x51, .ref x52, .ref x53, .int 0, .int 0])), (x1, .inr (6, [.ref x2, .int 0, .int 0, .int 0, .ref x3])), (x2, .inl (ci.1, 80, .inl (fun _ => 0))), (x3, .inl (ci.1, 3, .inl (fun _ => 0))), (x4, .inr (0, [.int 6, .int 0, .int 2, .int 0, .ref x5, .ref x6, .ref x7, .ref x8])), (x5, .inl (ci.1, 5, .inl (fun _ => 0))), (x6, .inl (ci.1, 5, .inl (fun _ => 0))), (x7, .inl (ci.1, 5, .inl (fun _ => 0))), (x8, .inl (ci.1, 5, .inl (fun _ => 0))), (x9, .inr (0, [.int 6, .int 0, .int 2, .int 0, .ref x10, .ref x11, .ref x12, .ref x13])), (x10, .inl (ci.1, 5, .inl (fun _ => 0))), (x11, .inl (ci.1, 5, .inl (fun _ => 0))), (x12, .inl (ci.1, 5, .inl (fun _ => 0))), (x13, .inl (ci.1, 5, .inl (fun _ => 0))), (x14, .inr (0, [.int 6, .int 0, .int 2, .int 0, .ref x15, .ref x16, .ref x17, .ref x18])), (x15, .inl (ci.1, 5, .inl (fun _ => 0))), (x16, .inl (ci.1, 5, .inl (fun _ => 0))), (x17, .inl (ci.1, 5, .inl (fun _ => 0))), (x18, .inl (ci.1, 5, .inl (fun _ => 0))), (x19, .inr (1, [.int 0, .int 0, .int 0, .int 0, .ref x20, .ref x21, .ref x22, .ref x23, .ref x24, .ref x25])), (x20, .inl (ci.1, 10, .inl (fun _ => 0))), (x21, .inl (ci.1, 10, .inl (fun _ => 0))), (x22, .inl (ci.1, 10, .inl (fun _ => 0))), (x23, .inl (ci.1, 10, .inl (fun _ => 0))), (x24, .inl (ci.2.1, 61, .inl (fun _ => 0))), (x25, .inl (ci.1, 3, .inl (fun _ => 0))), (x26, .inr (1, [.int 0, .int 0, .int 0, .int 0, .ref x27, .ref x28, .ref x29, .ref x30, .ref x31, .ref x32])), (x27, .inl (ci.1, 10, .inl (fun _ => 0))), (x28, .inl (ci.1, 10, .inl (fun _ => 0))), (x29, .inl (ci.1, 10, .inl (fun _ => 0))), (x30, .inl (ci.1, 10, .inl (fun _ => 0))), (x31, .inl (ci.2.1, 61, .inl (fun _ => 0))), (x32, .inl (ci.1, 3, .inl (fun _ => 0))), (x33, .inr (2, [.int 0, .ref x34, .ref x35, .ref x36])), (x34, .inl (ci.1, 8, .inl (fun _ => 0))), (x35, .inl (ci.1, 8, .inl (fun _ => 0))), (x36, .inl (ci.1, 8, .inl (fun _ => 0))), (x37, .inr (2, [.int 0, .ref x38, .ref x39, .ref x40])), (x38, .inl (ci.1, 8, .inl (fun _ => 0))), (x39, .inl (ci.1, 8, .inl (fun _ => 0))), (x40, .inl (ci.1, 8, .inl (fun _ => 0))), (x41, .inr (4, [.int 0, .int 0, .int 0, .ref x42, .int 0, .int 0, .ref x43, .ref x44, .ref x45])), (x42, .inl (ci.1, 5, .inl (fun _ => 0))), (x43, .inl (ci.1, 5, .inl (fun _ => 0))), (x44, .inl (ci.1, 12, .inl (fun _ => 0))), (x45, .inl (ci.2.2, 5, .inr (.inr (.inr (.inr (k_out x45)))))), (x45 + 1, .inl (ci.1, 12, .inl (fun _ => 0))), (x45 + 2, .inl (ci.1, 12, .inl (fun _ => 0))), (x45 + 3, .inl (ci.1, 12, .inl (fun _ => 0))), (x45 + 4, .inl (ci.1, 12, .inl (fun _ => 0))), (x45 + 5, .inl (ci.1, 12, .inl (fun _ => 0))), (x46, .inr (3, [.int 0, .int 0, .int 0, .ref x47, .int 0, .ref x48, .ref x49, .ref x50])), (x47, .inl (ci.1, 5, .inl (fun _ => 0))), (x48, .inl (ci.1, 5, .inl (fun _ => 0))), (x49, .inl (ci.1, 5, .inl (fun _ => 0))), (x50, .inl (ci.1, 5, .inl (fun _ => 0))), (x51, .inr (5, [.int 0, .int 0, .int 0])), (x52, .inl (ci.1, 5, .inl (fun _ => 0))), (x53, .inl (ci.1, 7, .inl (fun _ => 0))), (m0, .inr (8, [.ref m1, .ref m2, .ref m3, .ref m4, .int 0, .ref m5, .ref m6, .int 0, .int 0, .ref m7, .ref m8, .ref m9, .int 0, .int 0, .ref m10, .int 0, .int 0, .ref m11, .int 0, .int 0, .ref m12, .ref m13, .int 0])), (m1, .inl (ci.1, 7, .inl (fun _ => 0))), (m2, .inl (ci.1, 90, .inl (upd (upd (fun _ => 0) ((0 : Int32).toNatClampNeg) 6) ((2 : Int32).toNatClampNeg) 2))), (m3, .inl (ci.1, 90, .inl (fun _ => 0))), (m4, .inl (ci.1, 90, .inl (fun _ => 0))), (m5, .inl (ci.1, 80, .inl (fun _ => 0))), (m6, .inl (ci.1, 3, .inl (fun _ => 0))), (m7, .inl (ci.1, 5, .inl (fun _ => 0))), (m8, .inl (ci.1, 5, .inl (fun _ => 0))), (m9, .inl (ci.1, 5, .inl (fun _ => 0))), (m10, .inl (ci.1, 5, .inl (fun _ => 0))), (m11, .inl (ci.1, 3, .inl (fun _ => 0))), (m12, .inl (ci.1, 90, .inl (fun _ => 0))), (m13, .inl (ci.1, 5, .inl (fun _ => 0)))] := by
  rw [z_cw_cl, ← k_o45 (ad := k_ad [x0, x1, x2, x3, x4, x5, x6, x7, x8, x9, x10, x11, x12, x13, x14, x15, x16, x17, x18, x19, x20, x21, x22, x23, x24, x25, x26, x27, x28, x29, x30, x31, x32, x33, x34, x35, x36, x37, x38, x39, x40, x41, x42, x43, x44, x45, x45 + 1, x45 + 2, x45 + 3, x45 + 4, x45 + 5, x46, x47, x48, x49, x50, x51, x52, x53, m0, m1, m2, m3, m4, m5, m6, m7, m8, m9, m10, m11, m12, m13] b adK adV fm) (q := x45) rfl rfl rfl rfl rfl]
  rfl
section k_lw
variable {p : Program} {l : Launch} {e : Env} {R : Room} {s : State} {m : MethodId} {args : Array Value} {below : List Frame} {meth : Method} {c : Code} {H : Heap} {locs : List Loc} {cells slots : Nat} {Q : State → Prop} {A : Nat → Prop} {D : va_G} {ci : z_I} {ws : va_W} {ls : Array Slot}
/-- new C, dup, C() in the law -/
theorem k_lawnew {pc idx1 idx2 cj N mc ms d : Nat} {y : MethodName} {cc' : ByteArray} {C0 : String} {T : u_T} {fs : List Value} {ty : Nat → FieldType} {Out : z_I → Nat → va_W → Prop} (isR : List Nat) (n0 : Nat) (S : CallFix p m c cL_law 4 s args ALL RL) (hK : va_K D vwCl (k_ty ci) s) (hA : ∀ q, s.heap.size ≤ q → A q) (hN : k_nst s) (hW : k_W D A s H locs ws) (hls : ls.size = 4)
    (hd0 : decode cL_law pc = .ok (.new idx1, 3)) (hd1 : decode cL_law (pc + 3) = .ok (.dup, 1)) (hd2 : decode cL_law (pc + 3 + 1) = .ok (.invokespecial idx2, 3)) (hc : z_K cj C0 T N) (hty : ∀ k, k < N → parseFieldDescriptor (T k).2.2.1 = some (ty k)) (hcl : Jvm.Cond.classLink RL idx1 C0 ∈ ALL) (hinst : Jvm.Cond.instantiable C0 N ∈ ALL) (hini : Jvm.Cond.initialized C0 ∈ ALL) (hfs : ∀ j, j < N → defaultValue (ty j) = vp_V fs j)
    (hM : k_Met d mc ms y cc' (.inr (cj, fs)) Out) (hlk : Jvm.Cond.methodLink RL idx2 y ∈ ALL) (hcode : Jvm.Cond.code y cc' 1 none ∈ ALL) (hini2 : Jvm.Cond.initialized y.cls ∈ ALL) (hin : Jvm.Cond.instanceMethod y ∈ ALL) (hyn : y.name = "<init>") (hy : y.cls ≠ "java/lang/invoke/MethodHandle" ∧ y.cls ≠ "java/lang/invoke/VarHandle" ∧ (parseMethodDescriptor y.desc).map (fun d => d.parameters.length) = some 0)
    (hr : d + 1 ≤ R.frames ∧ 8 + (1 + 11) + 64 * d ≤ R.locals) (h1 : cells + 1 + mc ≤ R.cells) (h2 : slots + N + ms ≤ R.slots) (hn0 : ws.length = n0) (hR2 : isR = List.range n0) (hnd : va_nd isR = true)
    (kk : ∀ (q : Nat) (w : va_W) (H1 : Heap) (locs1 : List Loc), Out ci q w → k_W D A s H1 locs1 (ws ++ w) → W p l e R s m args below meth c H1 locs1 (cells + 1 + mc) (slots + N + ms) Q (F0 m (pc + 3 + 1 + 3) ls [.ref q])) : W p l e R s m args below meth c H locs cells slots Q (F0 m pc ls []) := by
  have hts := S.2.2.2.2
  refine va_new S.1 S.2.1 hts hc.2.1 ty hty S.2.2.2.1 (hts _ hcl) (hts _ hinst) (hts _ hini) hK hW.1 hW.2.1 hW.2.2 hA hc.1 hfs (by omega) (by omega) hd0 (fun q H1 hP hD hS => ?_)
  refine lv_dup S.1 S.2.1 hd1 rfl ?_
  have hi : (ws ++ [(q, (.inr (cj, fs) : va_E))])[n0]? = some (q, .inr (cj, fs)) := by rw [← hn0]; simp
  have hC : [n0].map (fun i => (ws ++ [(q, (.inr (cj, fs) : va_E))])[i]?) = [(q, .inr (cj, fs))].map some := by simp only [List.map_cons, List.map_nil, hi]
  have hRw : isR.map (fun i => (ws ++ [(q, (.inr (cj, fs) : va_E))])[i]?) = ws.map some := by
    rw [hR2, ← hn0]
    refine List.ext_getElem? (fun i => ?_)
    rw [List.getElem?_map, List.getElem?_map]
    by_cases hlt : i < ws.length
    · rw [List.getElem?_range hlt]
      simp [List.getElem?_append_left hlt, List.getElem?_eq_getElem hlt]
    · rw [List.getElem?_eq_none (by rw [List.length_range]; omega), List.getElem?_eq_none (by omega)]
      rfl
  have hdis : ∀ i ∈ isR, i ∉ [n0] := fun i hi2 => by
    rw [hR2] at hi2
    have := List.mem_range.mp hi2
    simp
    omega
  have hPc : va_P D vwCl [(q, .inr (cj, fs))] H1 := hP.sub [n0] (by simp only [List.filterMap_cons, List.filterMap_nil, hi])
  have hDc : va_D A [(q, .inr (cj, fs))] := hD.sub [n0] (by simp [va_nd]) hC
  have hFc := va_free (wc := [(q, .inr (cj, fs))]) hD hS hA [n0] hC
  refine va_callv (va_runI (As := []) (rest := [.ref q]) S (hM l D ci q H1.size) (cwI 0 hts (good_in hcode) rfl rfl rfl (hts _ hini2) (hts _ hlk) (hts _ hin) hyn hy hr) ⟨k_blind, fun U hU hWm => ⟨rfl, by rw [hU], by rw [hU]; exact hPc, va_K.moved hWm.alike hK, hDc.weaken (fun _ _ _ _ => trivial), hN.warm hWm⟩⟩ rfl rfl hls rfl (lv_room (Nat.le_of_ble_eq_true rfl)) hd2 ⟨h1, h2⟩) hS (fun q _ h => hFc q h) hFc (fun w t H2 locs2 ht hvm hw hB hz1 hk1 hS2 => ?_)
  obtain ⟨hP1, hK1, hD1⟩ := hB
  rw [ht] at hP1
  obtain ⟨hP2, hD2⟩ := va_join (wr := ws) (w1 := w) hP hD [n0] isR hC hRw hnd hdis hk1 hFc hP1 hD1
  exact kk q w H2 locs2 hw ⟨hP2, hD2, hS2⟩
end k_lw
set_option maxHeartbeats 4000000 in
set_option maxRecDepth 100000 in
/-- THE LAW, from its entry, for every script of at most 3072 ints, to its end with true -/
theorem whole_start {p : Program} {e : Env} {s : State} {m : MethodId} {below : List Frame} {meth : Method} {c : Code} (l : Launch) (hflags : l.flags = flags0) {b L : Nat} {xs : Nat → Int32} (hL : L ≤ 3072) (C0 : lw_At p s m meth c b L xs) : W p l e room_1 s m #[Value.ref b] below meth c s.heap [] 0 0 (lw_Z below #[Value.ref b] s) (entryFrame m ([Value.ref b] : List Value).toArray 4) := by
  obtain ⟨hx, hb, hr, hml, hown, hts, hX, hbl, hlocks, hgv⟩ := id C0
  have htA : ∀ w ∈ ALL, w.before #[Value.ref b] s = true := fun w hw => hts w (List.mem_filter.mp hw).1
  obtain ⟨D, ci, hK⟩ := k_known hts
  obtain ⟨adK, adV, fm, h1, h2, h3, h4, h5, hN⟩ := k_lits (A := fun q : Nat => s.heap.size ≤ q) hts hgv (fun a ha h => absurd h (Nat.not_le.mpr ha))
  have S : CallFix p m c cL_law 4 s #[Value.ref b] ALL RL := ⟨hx, hb, hml, hown, htA⟩
  have hW0 : k_W D (fun q : Nat => s.heap.size ≤ q) s s.heap [] [] := ⟨fun k q h => (by simp at h), ⟨fun i j p q h => (by simp at h), fun k q h => (by simp at h)⟩, va_S.rf⟩
  have hl := lv_entry ([.ref b]) (n := 4) (Nat.le_of_ble_eq_true rfl)
  rw [lg_entry_eq]
  generalize (lg_sl ([.ref b]) ++ List.replicate (4 - (lg_sl ([.ref b])).length) Slot.unset).toArray = ls at hl ⊢
  have hl : lv_has ls 4 [(0, .ref b)] := hl
  refine k_lawnew [] 0 S hK (fun _ h => h) hN hW0 hl.1 (idx1 := 7) (idx2 := 9) (by decide +kernel) (by decide +kernel) (by decide +kernel) z_K_7 tyX7_ok (mem_ALL (i := 68) rfl rfl) (mem_ALL (i := 69) rfl rfl) (mem_ALL (i := 52) rfl rfl) k_df7 k_m7 (mem_ALL (i := 70) rfl rfl) (mem_ALL (i := 72) rfl rfl) (mem_ALL (i := 52) rfl rfl) (mem_ALL (i := 71) rfl rfl) rfl (by decide +kernel) ⟨by decide, by decide⟩ (by decide) (by decide) rfl rfl rfl (fun x0 w H1 locs1 hw hW1 => ?_)
  obtain ⟨x1, x2, x3, x4, x5, x6, x7, x8, x9, x10, x11, x12, x13, x14, x15, x16, x17, x18, x19, x20, x21, x22, x23, x24, x25, x26, x27, x28, x29, x30, x31, x32, x33, x34, x35, x36, x37, x38, x39, x40, x41, x42, x43, x44, x45, x46, x47, x48, x49, x50, x51, x52, x53, rfl⟩ := hw
  have hW1 : k_W D (fun q : Nat => s.heap.size ≤ q) s H1 locs1 [(x0, .inr (7, [.ref x1, .ref x4, .ref x9, .ref x14, .ref x19, .ref x26, .ref x33, .ref x37, .ref x41, .ref x46, .ref x51, .ref x52, .ref x53, .int 0, .int 0])), (x1, .inr (6, [.ref x2, .int 0, .int 0, .int 0, .ref x3])), (x2, .inl (ci.1, 80, .inl (fun _ => 0))), (x3, .inl (ci.1, 3, .inl (fun _ => 0))), (x4, .inr (0, [.int 6, .int 0, .int 2, .int 0, .ref x5, .ref x6, .ref x7, .ref x8])), (x5, .inl (ci.1, 5, .inl (fun _ => 0))), (x6, .inl (ci.1, 5, .inl (fun _ => 0))), (x7, .inl (ci.1, 5, .inl (fun _ => 0))), (x8, .inl (ci.1, 5, .inl (fun _ => 0))), (x9, .inr (0, [.int 6, .int 0, .int 2, .int 0, .ref x10, .ref x11, .ref x12, .ref x13])), (x10, .inl (ci.1, 5, .inl (fun _ => 0))), (x11, .inl (ci.1, 5, .inl (fun _ => 0))), (x12, .inl (ci.1, 5, .inl (fun _ => 0))), (x13, .inl (ci.1, 5, .inl (fun _ => 0))), (x14, .inr (0, [.int 6, .int 0, .int 2, .int 0, .ref x15, .ref x16, .ref x17, .ref x18])), (x15, .inl (ci.1, 5, .inl (fun _ => 0))), (x16, .inl (ci.1, 5, .inl (fun _ => 0))), (x17, .inl (ci.1, 5, .inl (fun _ => 0))), (x18, .inl (ci.1, 5, .inl (fun _ => 0))), (x19, .inr (1, [.int 0, .int 0, .int 0, .int 0, .ref x20, .ref x21, .ref x22, .ref x23, .ref x24, .ref x25])), (x20, .inl (ci.1, 10, .inl (fun _ => 0))), (x21, .inl (ci.1, 10, .inl (fun _ => 0))), (x22, .inl (ci.1, 10, .inl (fun _ => 0))), (x23, .inl (ci.1, 10, .inl (fun _ => 0))), (x24, .inl (ci.2.1, 61, .inl (fun _ => 0))), (x25, .inl (ci.1, 3, .inl (fun _ => 0))), (x26, .inr (1, [.int 0, .int 0, .int 0, .int 0, .ref x27, .ref x28, .ref x29, .ref x30, .ref x31, .ref x32])), (x27, .inl (ci.1, 10, .inl (fun _ => 0))), (x28, .inl (ci.1, 10, .inl (fun _ => 0))), (x29, .inl (ci.1, 10, .inl (fun _ => 0))), (x30, .inl (ci.1, 10, .inl (fun _ => 0))), (x31, .inl (ci.2.1, 61, .inl (fun _ => 0))), (x32, .inl (ci.1, 3, .inl (fun _ => 0))), (x33, .inr (2, [.int 0, .ref x34, .ref x35, .ref x36])), (x34, .inl (ci.1, 8, .inl (fun _ => 0))), (x35, .inl (ci.1, 8, .inl (fun _ => 0))), (x36, .inl (ci.1, 8, .inl (fun _ => 0))), (x37, .inr (2, [.int 0, .ref x38, .ref x39, .ref x40])), (x38, .inl (ci.1, 8, .inl (fun _ => 0))), (x39, .inl (ci.1, 8, .inl (fun _ => 0))), (x40, .inl (ci.1, 8, .inl (fun _ => 0))), (x41, .inr (4, [.int 0, .int 0, .int 0, .ref x42, .int 0, .int 0, .ref x43, .ref x44, .ref x45])), (x42, .inl (ci.1, 5, .inl (fun _ => 0))), (x43, .inl (ci.1, 5, .inl (fun _ => 0))), (x44, .inl (ci.1, 12, .inl (fun _ => 0))), (x45, .inl (ci.2.2, 5, .inr (.inr (.inr (.inr (k_out x45)))))), (x45 + 1, .inl (ci.1, 12, .inl (fun _ => 0))), (x45 + 2, .inl (ci.1, 12, .inl (fun _ => 0))), (x45 + 3, .inl (ci.1, 12, .inl (fun _ => 0))), (x45 + 4, .inl (ci.1, 12, .inl (fun _ => 0))), (x45 + 5, .inl (ci.1, 12, .inl (fun _ => 0))), (x46, .inr (3, [.int 0, .int 0, .int 0, .ref x47, .int 0, .ref x48, .ref x49, .ref x50])), (x47, .inl (ci.1, 5, .inl (fun _ => 0))), (x48, .inl (ci.1, 5, .inl (fun _ => 0))), (x49, .inl (ci.1, 5, .inl (fun _ => 0))), (x50, .inl (ci.1, 5, .inl (fun _ => 0))), (x51, .inr (5, [.int 0, .int 0, .int 0])), (x52, .inl (ci.1, 5, .inl (fun _ => 0))), (x53, .inl (ci.1, 7, .inl (fun _ => 0)))] := hW1
  refine lv_astore_n (lv' := [(1, .ref x0), (0, .ref b)]) hx hb (show decode cL_law 7 = .ok (.astore_n 1, 1) by decide +kernel) rfl hl (by decide) rfl (fun ls hl => ?_)
  refine k_lawnew (List.range 59) 59 S hK (fun _ h => h) hN hW1 hl.1 (idx1 := 10) (idx2 := 12) (by decide +kernel) (by decide +kernel) (by decide +kernel) z_K_8 tyX8_ok (mem_ALL (i := 882) rfl rfl) (mem_ALL (i := 883) rfl rfl) (mem_ALL (i := 60) rfl rfl) k_df8 k_m8 (mem_ALL (i := 884) rfl rfl) (mem_ALL (i := 886) rfl rfl) (mem_ALL (i := 60) rfl rfl) (mem_ALL (i := 885) rfl rfl) rfl (by decide +kernel) ⟨by decide, by decide⟩ (by decide) (by decide) rfl rfl (by decide) (fun m0 w H2 locs2 hw hW2 => ?_)
  obtain ⟨m1, m2, m3, m4, m5, m6, m7, m8, m9, m10, m11, m12, m13, rfl⟩ := hw
  have hW2 : k_W D (fun q : Nat => s.heap.size ≤ q) s H2 locs2 (z_cw (D, ci, k_ad [x0, x1, x2, x3, x4, x5, x6, x7, x8, x9, x10, x11, x12, x13, x14, x15, x16, x17, x18, x19, x20, x21, x22, x23, x24, x25, x26, x27, x28, x29, x30, x31, x32, x33, x34, x35, x36, x37, x38, x39, x40, x41, x42, x43, x44, x45, x45 + 1, x45 + 2, x45 + 3, x45 + 4, x45 + 5, x46, x47, x48, x49, x50, x51, x52, x53, m0, m1, m2, m3, m4, m5, m6, m7, m8, m9, m10, m11, m12, m13] b adK adV fm) (z_H S0)) := by
    rw [k_world]
    exact hW2
  refine lv_astore_n (lv' := [(2, .ref m0), (1, .ref x0), (0, .ref b)]) hx hb (show decode cL_law 15 = .ok (.astore_n 2, 1) by decide +kernel) rfl hl (by decide) rfl (fun ls hl => ?_)
  refine lv_iconst (v := 0) hx hb (show decode cL_law 16 = .ok (.iconst 0, 1) by decide +kernel) (by decide) ?_
  refine lv_istore_n (lv' := [(3, .int 0), (2, .ref m0), (1, .ref x0), (0, .ref b)]) hx hb (show decode cL_law 17 = .ok (.istore_n 3, 1) by decide +kernel) rfl hl (by decide) rfl (fun ls hl => ?_)
  have hl2 : lv_has ls 4 [(0, .ref b), (1, .ref x0), (2, .ref m0), (3, .int (nI 0))] := lv_sub hl [3, 2, 1, 0] rfl
  generalize hg : k_ad [x0, x1, x2, x3, x4, x5, x6, x7, x8, x9, x10, x11, x12, x13, x14, x15, x16, x17, x18, x19, x20, x21, x22, x23, x24, x25, x26, x27, x28, x29, x30, x31, x32, x33, x34, x35, x36, x37, x38, x39, x40, x41, x42, x43, x44, x45, x45 + 1, x45 + 2, x45 + 3, x45 + 4, x45 + 5, x46, x47, x48, x49, x50, x51, x52, x53, m0, m1, m2, m3, m4, m5, m6, m7, m8, m9, m10, m11, m12, m13] b adK adV fm = ad at hW2
  have e1 : ad 999999 = b := by rw [← hg]; rfl
  have e2 : ad 0 = x0 := by rw [← hg]; rfl
  have e3 : ad 59 = m0 := by rw [← hg]; rfl
  have hlit : z_lit (D, ci, ad) (fun q : Nat => s.heap.size ≤ q) s s.heap := by rw [← hg]; exact k_lit h1 h2 h3 h4 h5
  have hlen : (z_H S0).length = 73 := rfl
  have hinj : z_inj (D, ci, ad) 73 := fun i j hi hj e => by
    obtain ⟨a, ha⟩ : ∃ a, (z_H S0)[i]? = some a := ⟨_, List.getElem?_eq_getElem (by rw [hlen]; exact hi)⟩
    obtain ⟨a', ha'⟩ : ∃ a, (z_H S0)[j]? = some a := ⟨_, List.getElem?_eq_getElem (by rw [hlen]; exact hj)⟩
    exact hW2.2.1.1 i j _ _ (z_cw_at (g := (D, ci, ad)) ha) (z_cw_at (g := (D, ci, ad)) ha') e
  have hzA : ∀ q, z_A (D, ci, ad) 73 q → s.heap.size ≤ q := fun q h => by
    obtain ⟨k, hk, rfl⟩ := h
    obtain ⟨a, ha⟩ : ∃ a, (z_H S0)[k]? = some a := ⟨_, List.getElem?_eq_getElem (by rw [hlen]; exact hk)⟩
    exact hW2.2.1.2 k _ (z_cw_at (g := (D, ci, ad)) ha)
  have hscr : z_scr (D, ci, ad) (some (L, xs)) (fun q : Nat => s.heap.size ≤ q) s := fun q hq => by
    cases hq
    refine ⟨?_, ?_, ?_⟩
    · show va_X (ad 999999) L xs s s.heap
      rw [e1]
      exact hX
    · show ad 999999 < s.heap.size
      rw [e1]
      exact hbl
    · show ¬ s.heap.size ≤ ad 999999
      rw [e1]
      exact Nat.not_le.mpr hbl
  have hl3 : lv_has ls 4 (z_cL (D, ci, ad) [(0, .inr (some 999999)), (1, z_p 0), (2, z_p 59), (3, .inl (nI 0))]) := by
    show lv_has ls 4 [(0, .ref (ad 999999)), (1, .ref (ad 0)), (2, .ref (ad 59)), (3, .int (nI 0))]
    rw [e1, e2, e3]
    exact hl2
  refine lw_loop (Z := fun v _ => v = some (.inl 1)) hL (fun _ => rfl) 3073 0 S0 (by omega) (by omega) Inv_S0 hlen p l e room_1 s m #[Value.ref b] below meth c (D, ci, ad) (fun q : Nat => s.heap.size ≤ q) _ _ H2 locs2 ls _ ⟨S, hK, hinj, hzA, hlit, hscr, by decide, by decide, by decide, by decide⟩ hW2.1 hW2.2.2 hl3 ?_
  intro v h' H' locs' pc' ls' hv hlen' hP' hS' hret
  cases hv
  refine W.widen (k := 600000) (n := 7302249) (by decide) (by decide) ?_
  refine va_forget (fun q hq => hS'.2.2 q hq) ?_
  exact lw_ret hx hb hr hlocks hret
