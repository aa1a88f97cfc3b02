/-! equations of degree three: what is laid, in class and reference -/
section CUBICS
variable {d : Nat} {g : qG} {I I' : qI} {J : qJ} {Q : qQ} {t : List Nat} {p M n : Nat} {s s' : ST} {hs hs' : List ST} {im im' : Option ST} {sc : SC} {rf : RF} {x x1 x2 x3 x4 x5 x6 : Int32} {regs : Nat → Sr} {a r q : Nat} {c : Nat → Int} {n0 n1 n2 n3 : Nat} {a0 a1 a2 a3 : Nat → Int}
def gS (s : ST) (M : Nat) (x : Int32) : Sr := if x = -1 then (M, fun _ => 0) else s.1 x.toInt.toNat
def gV (s : ST) (x : Int32) : Prop := x = -1 ∨ lnr s.1 x ≠ 0
theorem gS_m : gS s M (-1) = (M, fun _ => 0) := if_pos rfl
theorem gS_r (hr : r < 8) : gS s M (nI r) = s.1 r := by
  unfold gS
  rw [if_neg (m1_ne (by omega)), nI_toInt (by omega)]
  rfl
theorem gS_ok (ok : okW p M s hs im sc) (hp : p ≠ 0) (h : gV s x) : okR p M (gS s M x) := by
  have hR := ok.ring hp
  rcases h with rfl | h
  · rw [gS_m]; exact ⟨by show 1 ≤ M; omega, Nat.le_refl _, zero_ok p M (by omega) hR.2.1.2⟩
  · obtain ⟨r, hr, rfl, hn, -, ho, hM, -⟩ := ok.full h
    rw [gS_r hr]; exact ⟨by omega, hM, ho⟩
theorem sNum0 (p : Nat) : sNum p 0 = fun _ => 0 := by
  funext i
  unfold sNum
  rw [Int.zero_emod]
  split <;> rfl
theorem sNumV0 : sNumV 0 = fun _ => 0 := by
  funext i
  unfold sNumV
  split <;> rfl
theorem k_gat1 (ok : okW p M s hs im sc) (hp : p ≠ 0) (hsh : qSh g) (hR : kR I p M) (hG : kG I 89 s.1) {k : Nat} (hk : k < 4) (k1 : gV s x → ∀ I', kS I' (25 + 2 * k) (gS s M x).1 (gS s M x).2 → (∀ b, b ≠ 25 + 2 * k → b ≠ 25 + 2 * k + 1 → I' b = I b) → Q (some (.int (nI 1))) g I' J) (k0 : ¬ gV s x → Q (some (.int (nI 0))) g I J) : qC (d + 2) 144 [.ref 4, .int (nI k), .int x] g I J Q := by
  by_cases hx : x = -1
  · refine w144 hsh (brT hx ⟨k, rfl, hk, k_setNum hsh hR (hsh.cubicS hk) (by omega) (v := 0) (by omega) (nI_iI 0) (fun I1 s1 f1 => ⟨rfl, k1 (Or.inl hx) I1 ?_ f1⟩)⟩)
    rw [hx, gS_m]
    rw [sNum0] at s1
    exact s1
  · refine w144 hsh (brN hx (k_len hsh hG ⟨_, rfl, ?_⟩))
    by_cases hz : lnr s.1 x = 0
    · rw [hz]; exact br0 (k0 (fun h => h.elim hx (fun h => h hz)))
    · have hv : gV s x := Or.inr hz
      obtain ⟨r, hr, rfl, hn, -, ho, hM, h24⟩ := ok.full hz
      rw [lnr_at hr, ← nI_0, nI_eq (by omega) (by omega)]
      refine brN hn ⟨k, rfl, hk, k_load (hsh.cubicS hk) (hsh.sta rfl (by omega)) (by omega) hG ok.bd.1.1 hr (fun I1 s1 f1 => ⟨rfl, k1 hv I1 ?_ f1⟩)⟩
      rw [gS_r hr]; exact s1
def gV4 (s : ST) (x1 x2 x3 x4 : Int32) : Prop := gV s x1 ∧ gV s x2 ∧ gV s x3 ∧ gV s x4
theorem k_gat (ok : okW p M s hs im sc) (hp : p ≠ 0) (h : kI g I t p M s hs im sc rf) (k1 : gV4 s x1 x2 x3 x4 → ∀ I', kI g I' t p M s hs im sc rf → kR I' p M → kS I' 25 (gS s M x1).1 (gS s M x1).2 → kS I' 27 (gS s M x2).1 (gS s M x2).2 → kS I' 29 (gS s M x3).1 (gS s M x3).2 → kS I' 31 (gS s M x4).1 (gS s M x4).2 → (∀ b, (b < 25 ∨ 32 < b) → I' b = I b) → Q (some (.int (nI 1))) g I' J) (k0 : ¬ gV4 s x1 x2 x3 x4 → ∀ I', kI g I' t p M s hs im sc rf → (∀ b, (b < 25 ∨ 32 < b) → I' b = I b) → Q (some (.int (nI 0))) g I' J) : qC (d + 3) 143 [.ref 4, .int x1, .int x2, .int x3, .int x4] g I J Q := by
  have hsh := h.1.1
  have hR := h.2.2.2.2.1.R ok hp
  have hG := h.2.2.2.2.2.1.1
  have kp : ∀ I', (∀ b, (b < 25 ∨ 32 < b) → I' b = I b) → kI g I' t p M s hs im sc rf := fun I' f => h.keep ⟨fun b hb => f b (by omega), by rw [f 4 (by omega)], by rw [f 4 (by omega)], by rw [f 4 (by omega)], by rw [f 8 (by omega)]⟩
  have kg : ∀ I', (∀ b, (b < 25 ∨ 32 < b) → I' b = I b) → kR I' p M ∧ kG I' 89 s.1 := fun I' f => ⟨hR.frame (f 12 (by omega)), hG.keep (f 90 (by omega)) (f 91 (by omega))⟩
  have kk : ∀ I', (∀ b, (b < 25 ∨ 32 < b) → I' b = I b) → ¬ gV4 s x1 x2 x3 x4 → Q (some (.int (nI 0))) g I' J := fun I' f hn => k0 hn I' (kp I' f) f
  refine w143 hsh (h.2.2.2.2.1.tt (fun h0 => absurd h0 hp) (fun _ => ?_))
  refine k_gat1 ok hp hsh hR hG (k := 0) (by omega) (fun v1 I1 s1 f1 => ⟨_, rfl, br1 ?_⟩) (fun hn => ⟨_, rfl, br0 (kk I (fun _ _ => rfl) (fun h => hn h.1))⟩)
  have F1 : ∀ b, (b < 25 ∨ 32 < b) → I1 b = I b := fun b hb => f1 b (by omega) (by omega)
  refine k_gat1 ok hp hsh (kg I1 F1).1 (kg I1 F1).2 (k := 1) (by omega) (fun v2 I2 s2 f2 => ⟨_, rfl, br1 ?_⟩) (fun hn => ⟨_, rfl, br0 (kk I1 F1 (fun h => hn h.2.1))⟩)
  have F2 : ∀ b, (b < 25 ∨ 32 < b) → I2 b = I b := fun b hb => by rw [f2 b (by omega) (by omega), F1 b hb]
  refine k_gat1 ok hp hsh (kg I2 F2).1 (kg I2 F2).2 (k := 2) (by omega) (fun v3 I3 s3 f3 => ⟨_, rfl, br1 ?_⟩) (fun hn => ⟨_, rfl, br0 (kk I2 F2 (fun h => hn h.2.2.1))⟩)
  have F3 : ∀ b, (b < 25 ∨ 32 < b) → I3 b = I b := fun b hb => by rw [f3 b (by omega) (by omega), F2 b hb]
  refine k_gat1 ok hp hsh (kg I3 F3).1 (kg I3 F3).2 (k := 3) (by omega) (fun v4 I4 s4 f4 => ⟨_, rfl, br1 ?_⟩) (fun hn => ⟨_, rfl, br0 (kk I3 F3 (fun h => hn h.2.2.2))⟩)
  have F4 : ∀ b, (b < 25 ∨ 32 < b) → I4 b = I b := fun b hb => by rw [f4 b (by omega) (by omega), F3 b hb]
  exact k1 ⟨v1, v2, v3, v4⟩ I4 (kp I4 F4) (kg I4 F4).1 (((s1.frame (f2 _ (by omega) (by omega)) (f2 _ (by omega) (by omega))).frame (f3 _ (by omega) (by omega)) (f3 _ (by omega) (by omega))).frame (f4 _ (by omega) (by omega)) (f4 _ (by omega) (by omega))) ((s2.frame (f3 _ (by omega) (by omega)) (f3 _ (by omega) (by omega))).frame (f4 _ (by omega) (by omega)) (f4 _ (by omega) (by omega))) (s3.frame (f4 _ (by omega) (by omega)) (f4 _ (by omega) (by omega))) s4 F4
theorem r_lay1 (ok : okW p M s hs im sc) (hp : p ≠ 0) (hsh : qSh g) (h : rI I t p M s hs im sc rf) {k : Nat} (hk : k < 4) (k1 : gV s x → ∀ I', rI I' t p M s hs im sc rf → rS I' k (gS s M x).1 (gS s M x).2 → rF (fun q => q = k) I I' → Q (some (.int (nI 1))) g I' J) (k0 : ¬ gV s x → Q (some (.int (nI 0))) g I J) : qC (d + 3) 248 [.ref 105, .int x, .int (nI k)] g I J Q := by
  by_cases hx : x = -1
  · refine w248 hsh (brT hx (r_num hsh (h.2.1.R ok hp) (by omega) (v := 0) (nI_iI 0) (fun I1 s1 f1 => ⟨rfl, brT hx (k1 (Or.inl hx) I1 (h.keep ok f1.kp) ?_ f1)⟩)))
    rw [hx, gS_m]
    rw [sNumV0] at s1
    exact s1
  · refine w248 hsh (brN hx (r_heldI hsh ok h (fun hz => ⟨_, rfl, br1 ?_⟩) (fun hz => ⟨_, rfl, br0 (brN hx (r_heldI hsh ok h (fun hz2 => absurd hz hz2) (fun _ => ⟨_, rfl, br0 (k0 (fun h => h.elim hx (fun h => h hz)))⟩)))⟩)))
    have hv : gV s x := Or.inr hz
    have hz2 := hz
    obtain ⟨r, hr, rfl, hn, -, ho, hM, h24⟩ := ok.full hz
    refine r_take hsh h.2.2.1.1 hr (by omega) h24 (fun I1 f1 f2 s1 => ⟨rfl, brN hx ?_⟩)
    have F : rF (fun q => q = k) I I1 := ⟨f1, f2⟩
    have h1 := h.keep ok F.kp
    refine r_heldI hsh ok h1 (fun _ => ⟨_, rfl, br1 (k1 hv I1 h1 ?_ F)⟩) (fun hz3 => absurd hz3 hz2)
    rw [gS_r hr]; exact s1
theorem gS_24 (ok : okW p M s hs im sc) (hp : p ≠ 0) (h : gV s x) : (gS s M x).1 ≤ 24 := (gS_ok ok hp h).2.2.1
theorem r_lay (ok : okW p M s hs im sc) (hsh : qSh g) (h : rI I t p M s hs im sc rf) (k1 : p ≠ 0 → gV4 s x1 x2 x3 x4 → ∀ I', rI I' t p M s hs im sc rf → rS I' 0 (gS s M x1).1 (gS s M x1).2 → rS I' 1 (gS s M x2).1 (gS s M x2).2 → rS I' 2 (gS s M x3).1 (gS s M x3).2 → rS I' 3 (gS s M x4).1 (gS s M x4).2 → rKp I I' → Q (some (.int (nI 1))) g I' J) (k0 : (p = 0 ∨ ¬ gV4 s x1 x2 x3 x4) → ∀ I', rI I' t p M s hs im sc rf → rKp I I' → Q (some (.int (nI 0))) g I' J) : qC (d + 4) 247 [.ref 105, .int x1, .int x2, .int x3, .int x4] g I J Q := by
  by_cases hp : p = 0
  · refine w247 hsh (brT ?_ (k0 (Or.inl hp) I h (rKp.refl I)))
    rw [h.2.1.1, hp]; decide +kernel
  · have hpl := ok.p_lt
    refine w247 hsh (brN ?_ ?_)
    · rw [h.2.1.1, iI_z0, iI_le (by omega) (by omega)]; omega
    refine r_lay1 ok hp hsh h (k := 0) (by omega) (fun v1 I1 h1 s1 f1 => ⟨_, rfl, br1 ?_⟩) (fun hn => ⟨_, rfl, br0 (k0 (Or.inr (fun h => hn h.1)) I h (rKp.refl I))⟩)
    refine r_lay1 ok hp hsh h1 (k := 1) (by omega) (fun v2 I2 h2 s2 f2 => ⟨_, rfl, br1 ?_⟩) (fun hn => ⟨_, rfl, br0 (k0 (Or.inr (fun h => hn h.2.1)) I1 h1 f1.kp)⟩)
    refine r_lay1 ok hp hsh h2 (k := 2) (by omega) (fun v3 I3 h3 s3 f3 => ⟨_, rfl, br1 ?_⟩) (fun hn => ⟨_, rfl, br0 (k0 (Or.inr (fun h => hn h.2.2.1)) I2 h2 (f1.kp.trans f2.kp))⟩)
    refine r_lay1 ok hp hsh h3 (k := 3) (by omega) (fun v4 I4 h4 s4 f4 => ⟨_, rfl, br1 ?_⟩) (fun hn => ⟨_, rfl, br0 (k0 (Or.inr (fun h => hn h.2.2.2)) I3 h3 ((f1.kp.trans f2.kp).trans f3.kp))⟩)
    have g1 := gS_24 ok hp v1
    have g2 := gS_24 ok hp v2
    have g3 := gS_24 ok hp v3
    exact k1 hp ⟨v1, v2, v3, v4⟩ I4 h4 (((s1.keep f2 (by omega) g1).keep f3 (by omega) g1).keep f4 (by omega) g1) ((s2.keep f3 (by omega) g2).keep f4 (by omega) g2) (s3.keep f4 (by omega) g3) s4 (((f1.kp.trans f2.kp).trans f3.kp).trans f4.kp)
theorem am_mod (A B z p : Int) : (A + B * (z % p)) % p = (A + B * z) % p := by rw [Int.add_emod, em_r, ← Int.add_emod]
theorem pb {a b : Int} (ha : 0 ≤ a ∧ a < p) (hb : 0 ≤ b ∧ b < p) (hp : p < 998) : 0 ≤ a * b ∧ a * b ≤ 997 * 997 := ⟨Int.mul_nonneg ha.1 hb.1, Int.mul_le_mul (by omega) (by omega) hb.1 (by omega)⟩
theorem r_slope (hsh : qSh g) (hR : rR I p M) (h1 : rS I 1 n1 a1) (h2 : rS I 2 n2 a2) (h3 : rS I 3 n3 a3) (o1 : okS p n1 a1) (o2 : okS p n2 a2) (o3 : okS p n3 a3) {y : Int} (hy : 0 ≤ y ∧ y < p) (k : Q (some (.int (iI (slo (a1 0) (a2 0) (a3 0) y % p)))) g I J) : qC (d + 1) 249 [.ref 105, .int (iI y)] g I J Q := by
  have hp := hR.p2
  have b1 := o1.2.1 0
  have b2 := o2.2.1 0
  have b3 := o3.2.1 0
  have byy := pb hy hy hp.2
  have bS : 0 ≤ y * y % p ∧ y * y % p < p := ⟨Int.emod_nonneg _ (by omega), Int.emod_lt_of_pos _ (by omega)⟩
  refine w249 hsh (r_c' hsh (by omega) h1 o1 (by omega) rfl ⟨_, rfl, r_c' hsh (by omega) h2 o2 (by omega) rfl ⟨_, rfl, r_c' hsh (by omega) h3 o3 (by omega) rfl ⟨_, rfl, r_by hsh hR (z := y * y) (by omega) (by rw [iI_l (by omega), iL_mul]) ⟨_, rfl, ?_⟩⟩⟩⟩)
  have c1 := pb b2 hy hp.2
  have c2 := pb b3 bS hp.2
  refine r_by hsh hR (z := a1 0 + 2 * a2 0 * y + 3 * a3 0 * (y * y % p)) (by rw [Int.mul_assoc, Int.mul_assoc]; omega) (by rw [iI_l (by omega), iI_l (by omega), iI_l (by omega), iI_l (by omega), iI_l (by omega), lN_iL, lN_iL, iL_mul, iL_mul, iL_mul, iL_mul, iL_add, iL_add]; rfl) ⟨_, rfl, ?_⟩
  rw [am_mod]
  exact k
theorem r_isSt (hsh : qSh g) (hR : rR I p M) (h0 : rS I 0 n0 a0) (h1 : rS I 1 n1 a1) (h2 : rS I 2 n2 a2) (h3 : rS I 3 n3 a3) (o0 : okS p n0 a0) (o1 : okS p n1 a1) (o2 : okS p n2 a2) (o3 : okS p n3 a3) {y : Int} (hy : 0 ≤ y ∧ y < p) (k1 : isSt p (a0 0) (a1 0) (a2 0) (a3 0) y → Q (some (.int (nI 1))) g I J) (k0 : ¬ isSt p (a0 0) (a1 0) (a2 0) (a3 0) y → Q (some (.int (nI 0))) g I J) : qC (d + 2) 250 [.ref 105, .int (iI y)] g I J Q := by
  have hp := hR.p2
  have b0 := o0.2.1 0
  have b1 := o1.2.1 0
  have b2 := o2.2.1 0
  have b3 := o3.2.1 0
  have byy := pb hy hy hp.2
  have bS : 0 ≤ y * y % p ∧ y * y % p < p := ⟨Int.emod_nonneg _ (by omega), Int.emod_lt_of_pos _ (by omega)⟩
  have bSy := pb bS hy hp.2
  have bT : 0 ≤ y * y % p * y % p ∧ y * y % p * y % p < p := ⟨Int.emod_nonneg _ (by omega), Int.emod_lt_of_pos _ (by omega)⟩
  have c1 := pb b1 hy hp.2
  have c2 := pb b2 bS hp.2
  have c3 := pb b3 bT hp.2
  refine w250 hsh (r_by hsh hR (z := y * y) (by omega) (by rw [iI_l (by omega), iL_mul]) ⟨_, rfl, r_c' hsh (by omega) h0 o0 (by omega) rfl ⟨_, rfl, r_c' hsh (by omega) h1 o1 (by omega) rfl ⟨_, rfl, r_c' hsh (by omega) h2 o2 (by omega) rfl ⟨_, rfl, r_c' hsh (by omega) h3 o3 (by omega) rfl ⟨_, rfl, r_by hsh hR (z := y * y % p * y) (by omega) (by rw [iI_l (by omega), iI_l (by omega), iL_mul]) ⟨_, rfl, ?_⟩⟩⟩⟩⟩⟩)
  refine r_by hsh hR (z := a0 0 + a1 0 * y + a2 0 * (y * y % p) + a3 0 * (y * y % p * y % p)) (by omega) (by rw [iI_l (by omega), iI_l (by omega), iI_l (by omega), iI_l (by omega), iI_l (by omega), iI_l (by omega), iI_l (by omega), iL_mul, iL_mul, iL_mul, iL_add, iL_add, iL_add]) ⟨_, rfl, ?_⟩
  rw [em_l, am_mod, Int.add_right_comm, am_mod, Int.add_right_comm]
  have m1 := Int.emod_nonneg (a0 0 + a1 0 * y + a2 0 * (y * y) + a3 0 * (y * y * y)) (show (p : Int) ≠ 0 by omega)
  have m2 := Int.emod_lt_of_pos (a0 0 + a1 0 * y + a2 0 * (y * y) + a3 0 * (y * y * y)) (show (0 : Int) < p by omega)
  have m3 := Int.emod_nonneg (slo (a1 0) (a2 0) (a3 0) y) (show (p : Int) ≠ 0 by omega)
  have m4 := Int.emod_lt_of_pos (slo (a1 0) (a2 0) (a3 0) y) (show (0 : Int) < p by omega)
  rw [iI_z0, iI_eq (by omega) (by omega)]
  by_cases e : (a0 0 + a1 0 * y + a2 0 * (y * y) + a3 0 * (y * y * y)) % p = 0
  · refine brT e (r_slope hsh hR h1 h2 h3 o1 o2 o3 hy ⟨_, rfl, ?_⟩)
    rw [iI_eq (by omega) (by omega)]
    by_cases e2 : slo (a1 0) (a2 0) (a3 0) y % p = 0
    · exact brT e2 (k0 (fun h => h.2 e2))
    · exact brN e2 (k1 ⟨e, e2⟩)
  · exact brN e (k0 (fun h => e h.1))
theorem r_miss (hsh : qSh g) (hR : rR I p M) (h0 : rS I 0 n0 a0) (h1 : rS I 1 n1 a1) (h2 : rS I 2 n2 a2) (h3 : rS I 3 n3 a3) (o0 : okS p n0 a0) (o1 : okS p n1 a1) (o2 : okS p n2 a2) (o3 : okS p n3 a3) {L : Nat} {Y : Nat → Int} (hY : rS I 40 L Y) (oY : okS p L Y) {j : Nat} (hj : j < L) (k : ∀ I', rF (fun q => q = 41 ∨ q = 42) I I' → Q (some (.int (iI (cub a0 a1 a2 a3 Y j % p)))) g I' J) : qC (d + 3) 251 [.ref 105, .int (nI j)] g I J Q := by
  have hp := hR.p2
  have hL := oY.1
  refine w251 hsh ?_
  rw [nI_add]
  refine r_cuts hsh hR (r := 40) (by omega) (s := 40) (by omega) (to := 41) (by omega) (by omega) hY hY oY oY (L := j + 1) (by omega) (fun I1 s1 f1 => ⟨rfl, ?_⟩)
  have z1 : okS p (j + 1) (zx p (j + 1) (cv Y Y)) := zx_ok (by omega) (by omega)
  refine r_cuts hsh (hR.keep f1) (r := 41) (by omega) (s := 40) (by omega) (to := 42) (by omega) (by omega) s1 (hY.keep f1 (by omega) hL) z1 oY (L := j + 1) (by omega) (fun I2 s2 f2 => ⟨rfl, ?_⟩)
  rw [zx_cv (zx_E (Nat.le_refl _))] at s2
  have z2 : okS p (j + 1) (zx p (j + 1) (cv (cv Y Y) Y)) := zx_ok (by omega) (by omega)
  have F : rF (fun q => q = 41 ∨ q = 42) I I2 := (f1.mono (fun q h => Or.inl h)).trans (f2.mono (fun q h => Or.inr h))
  have R2 := hR.keep F
  have b0 := o0.2.1 j
  have c1 := cv_long o1 oY hp.2 (show j < 100 by omega)
  have c2 := cv_long o2 z1 hp.2 (show j < 100 by omega)
  have c3 := cv_long o3 z2 hp.2 (show j < 100 by omega)
  refine r_c' hsh (by omega) (h0.keep F (by omega) o0.1) o0 (by omega) rfl ⟨_, rfl, r_pl hsh (by omega) (by omega) (h1.keep F (by omega) o1.1) (hY.keep F (by omega) hL) o1 oY hp.2 (by omega) ⟨_, rfl, r_pl hsh (by omega) (by omega) (h2.keep F (by omega) o2.1) (s1.keep f2 (by omega) (by omega)) o2 z1 hp.2 (by omega) ⟨_, rfl, r_pl hsh (by omega) (by omega) (h3.keep F (by omega) o3.1) s2 o3 z2 hp.2 (by omega) ⟨_, rfl, ?_⟩⟩⟩⟩
  refine r_by hsh R2 (z := a0 j + cv a1 Y j + cv a2 (zx p (j + 1) (cv Y Y)) j + cv a3 (zx p (j + 1) (cv (cv Y Y) Y)) j) (by omega) (by rw [iI_l (by omega), iL_add, iL_add, iL_add]) ⟨_, rfl, ?_⟩
  have e : (a0 j + cv a1 Y j + cv a2 (zx p (j + 1) (cv Y Y)) j + cv a3 (zx p (j + 1) (cv (cv Y Y) Y)) j) % p = cub a0 a1 a2 a3 Y j % p := by
    apply dvd_emod.mp
    have d1 := pE.mul (pE.refl p (j + 1) a2) (zx_E (p := p) (f := cv Y Y) (Nat.le_refl (j + 1))) j (by omega)
    have d2 := pE.mul (pE.refl p (j + 1) a3) (zx_E (p := p) (f := cv (cv Y Y) Y) (Nat.le_refl (j + 1))) j (by omega)
    have d3 := Int.dvd_add d1 d2
    have e2 : a0 j + cv a1 Y j + cv a2 (zx p (j + 1) (cv Y Y)) j + cv a3 (zx p (j + 1) (cv (cv Y Y) Y)) j - cub a0 a1 a2 a3 Y j = cv a2 (zx p (j + 1) (cv Y Y)) j - cv a2 (cv Y Y) j + (cv a3 (zx p (j + 1) (cv (cv Y Y) Y)) j - cv a3 (cv (cv Y Y) Y) j) := by unfold cub; omega
    rw [e2]; exact d3
  rw [e]
  exact k I2 F
end CUBICS
