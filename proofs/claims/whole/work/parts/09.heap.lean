/-! THE HEAP of both objects as a function of one state: S.1 the fields by number, S.2 the rows by place -/
theorem z_go {c d nh j : Nat} {e : z_MT} {t : z_T} {as : List z_V} {h : List z_C} {Z : z_Zt} (he : z_mm j = some e) (hc : e.1.cls = z_own c) (hlen : Nat.ble as.length e.2.2.1 = true) (ht : z_tchk e.2.1 e.2.2.1 t = true) (sp : List (Nat × List Nat)) (f : Nat)
    (k : ∀ (C : z_Ct) (K : z_Kt) (R : z_Zt), (∀ j as h Z', z_EvM d nh j as h Z' → C j as h Z') → (∀ pc' L' st' h', z_Run (d + 1) nh (z_own c) e.2.1 e.2.2.1 none (fun v h' => z_nar e.2.2.2.1 v ∧ Z v h') pc' L' st' h' → K pc' L' st' h') → (∀ v h', z_nar e.2.2.2.1 v → Z v h' → R v h') → z_wp c t none sp C K R f 0 (z_args 0 as) [] h) : z_EvM (d + 1) nh j as h Z :=
  z_EvM_of (t := t) he hc (Nat.le_of_ble_eq_true hlen) (z_Run_of ht sp f (fun C K R hC hK hR => k C K R hC hK (fun v h' h1 h2 => hR v h' ⟨h1, h2⟩)))
abbrev z_S : Type := (Nat → Int32) × (Nat → Nat → Int32)
def z_o (ci : Nat) (fs : List z_V) : z_C := .inr (.inr (.inr (ci, fs)))
def z_r (S : z_S) (n p : Nat) : z_C := .inl (n, S.2 p)
def z_i (S : z_S) (k : Nat) : z_V := .inl (S.1 k)
def z_p (k : Nat) : z_V := .inr (some k)
def z_H (S : z_S) : List z_C := [
  z_o 7 [z_p 1, z_p 4, z_p 9, z_p 14, z_p 19, z_p 26, z_p 33, z_p 37, z_p 41, z_p 51, z_p 56, z_p 57, z_p 58, z_i S 37, z_i S 38],
  z_o 6 [z_p 2, z_i S 34, z_i S 35, z_i S 36, z_p 3], z_r S 80 2, z_r S 3 3,
  z_o 0 [z_i S 0, z_i S 1, z_i S 2, z_i S 3, z_p 5, z_p 6, z_p 7, z_p 8], z_r S 5 5, z_r S 5 6, z_r S 5 7, z_r S 5 8,
  z_o 0 [z_i S 4, z_i S 5, z_i S 6, z_i S 7, z_p 10, z_p 11, z_p 12, z_p 13], z_r S 5 10, z_r S 5 11, z_r S 5 12, z_r S 5 13,
  z_o 0 [z_i S 8, z_i S 9, z_i S 10, z_i S 11, z_p 15, z_p 16, z_p 17, z_p 18], z_r S 5 15, z_r S 5 16, z_r S 5 17, z_r S 5 18,
  z_o 1 [z_i S 12, z_i S 13, z_i S 14, z_i S 15, z_p 20, z_p 21, z_p 22, z_p 23, z_p 24, z_p 25], z_r S 10 20, z_r S 10 21, z_r S 10 22, z_r S 10 23, .inr (.inl (61, S.2 24)), z_r S 3 25,
  z_o 1 [z_i S 16, z_i S 17, z_i S 18, z_i S 19, z_p 27, z_p 28, z_p 29, z_p 30, z_p 31, z_p 32], z_r S 10 27, z_r S 10 28, z_r S 10 29, z_r S 10 30, .inr (.inl (61, S.2 31)), z_r S 3 32,
  z_o 2 [z_i S 20, z_p 34, z_p 35, z_p 36], z_r S 8 34, z_r S 8 35, z_r S 8 36,
  z_o 2 [z_i S 21, z_p 38, z_p 39, z_p 40], z_r S 8 38, z_r S 8 39, z_r S 8 40,
  z_o 4 [z_i S 22, z_i S 23, z_i S 24, z_p 42, z_i S 25, z_i S 26, z_p 43, z_p 44, z_p 45], z_r S 5 42, z_r S 5 43, z_r S 12 44, .inr (.inr (.inl (5, fun i => if i < 5 then some (46 + i) else none))), z_r S 12 46, z_r S 12 47, z_r S 12 48, z_r S 12 49, z_r S 12 50,
  z_o 3 [z_i S 27, z_i S 28, z_i S 29, z_p 52, z_i S 30, z_p 53, z_p 54, z_p 55], z_r S 5 52, z_r S 5 53, z_r S 5 54, z_r S 5 55,
  z_o 5 [z_i S 31, z_i S 32, z_i S 33], z_r S 5 57, z_r S 7 58,
  z_o 8 [z_p 60, z_p 61, z_p 62, z_p 63, z_i S 39, z_p 64, z_p 65, z_i S 40, z_i S 41, z_p 66, z_p 67, z_p 68, z_i S 42, z_i S 43, z_p 69, z_i S 44, z_i S 45, z_p 70, z_i S 46, z_i S 47, z_p 71, z_p 72, z_i S 48],
  z_r S 7 60, z_r S 90 61, z_r S 90 62, z_r S 90 63, z_r S 80 64, z_r S 3 65, z_r S 5 66, z_r S 5 67, z_r S 5 68, z_r S 5 69, z_r S 3 70, z_r S 90 71, z_r S 5 72]
/-- field k becomes x -/
def z_u (S : z_S) (k : Nat) (x : Int32) : z_S := (fun j => bif Nat.beq j k then x else S.1 j, S.2)
/-- row p becomes f -/
def z_w (S : z_S) (p : Nat) (f : Nat → Int32) : z_S := (S.1, fun q => bif Nat.beq q p then f else S.2 q)
