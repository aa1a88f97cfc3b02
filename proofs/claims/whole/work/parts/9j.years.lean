/-! calls: years -/
def nx (x : Int64) : Int64 := x * lN 6364136223846793005 + lN 1442695040888963407
def dv (y : Int64) (j : Nat) : Nat := (qushrL y (nI 33)).toBitVec.toNat % j
theorem bv33 (x : BitVec 64) : x >>> 33 = BitVec.ofNat 64 (x.toNat / 2 ^ 33) := by
  apply BitVec.eq_of_toNat_eq
  rw [BitVec.toNat_ushiftRight, BitVec.toNat_ofNat, Nat.shiftRight_eq_div_pow, Nat.mod_eq_of_lt]
  exact Nat.lt_of_le_of_lt (Nat.div_le_self _ _) x.isLt
theorem ush33 (y : Int64) : qushrL y (nI 33) = lN (y.toBitVec.toNat / 2 ^ 33) := by
  apply Int64.toBitVec_inj.mp
  exact bv33 y.toBitVec
theorem dv_lt {y : Int64} {j : Nat} (h : 0 < j) : dv y j < j := Nat.mod_lt _ h
theorem draw_v (y : Int64) {j : Nat} (hj : 1 ≤ j ∧ j < 2 ^ 31) : Int64.toInt32 (qremL (qushrL y (nI 33)) (Int32.toInt64 (nI j))) = nI (dv y j) := by
  have hn : y.toBitVec.toNat / 2 ^ 33 < 2 ^ 31 := Nat.div_lt_of_lt_mul (Nat.lt_of_lt_of_le y.toBitVec.isLt (by decide))
  unfold dv
  rw [ush33 y]
  generalize y.toBitVec.toNat / 2 ^ 33 = n at hn
  have e : (lN n).toBitVec.toNat = n := by
    show (BitVec.ofNat 64 n).toNat = n
    rw [BitVec.toNat_ofNat]
    exact Nat.mod_eq_of_lt (by omega)
  rw [e, nI_lN (by omega), lN_iL, lN_iL, iL_rem (by omega) (by omega), ← Int.ofNat_tmod, iL_i, ← nI_iI]
def yrS (p M : Nat) (x : Int64) : Int64 × SP :=
  if dv (nx (nx x)) 6 = 0 then (nx (nx (nx (nx x))), dv (nx x) 8, [(0, dv (nx (nx (nx x))) p), (0, dv (nx (nx (nx (nx x)))) p), (1, 0), (5, 0), (3, 0)])
  else if dv (nx (nx x)) 6 = 1 then (nx (nx (nx (nx x))), dv (nx x) 8, [(2, dv (nx (nx (nx x))) 8), (2, dv (nx (nx (nx (nx x)))) 8), (3, 0)])
  else if dv (nx (nx x)) 6 = 2 then (nx (nx (nx (nx x))), dv (nx x) 8, [(2, dv (nx (nx (nx x))) 8), (2, dv (nx (nx (nx (nx x)))) 8), (5, 0)])
  else if dv (nx (nx x)) 6 = 3 then (nx (nx (nx x)), dv (nx x) 8, [(2, dv (nx (nx (nx x))) 8), (8, 0)])
  else if dv (nx (nx x)) 6 = 4 then (nx (nx (nx x)), dv (nx x) 8, [(0, 1), (2, dv (nx (nx (nx x))) 8), (6, 0)])
  else (nx (nx (nx (nx x))), dv (nx x) 8, [(2, dv (nx (nx (nx x))) 8), (14, dv (nx (nx (nx (nx x)))) M + 1)])
section YRS
variable {p M : Nat} {x : Int64}
theorem yrS_0 (h : dv (nx (nx x)) 6 = 0) : yrS p M x = (nx (nx (nx (nx x))), dv (nx x) 8, [(0, dv (nx (nx (nx x))) p), (0, dv (nx (nx (nx (nx x)))) p), (1, 0), (5, 0), (3, 0)]) := if_pos h
theorem yrS_1 (h : dv (nx (nx x)) 6 = 1) : yrS p M x = (nx (nx (nx (nx x))), dv (nx x) 8, [(2, dv (nx (nx (nx x))) 8), (2, dv (nx (nx (nx (nx x)))) 8), (3, 0)]) := by
  unfold yrS; rw [if_neg (by omega), if_pos h]
theorem yrS_2 (h : dv (nx (nx x)) 6 = 2) : yrS p M x = (nx (nx (nx (nx x))), dv (nx x) 8, [(2, dv (nx (nx (nx x))) 8), (2, dv (nx (nx (nx (nx x)))) 8), (5, 0)]) := by
  unfold yrS; rw [if_neg (by omega), if_neg (by omega), if_pos h]
theorem yrS_3 (h : dv (nx (nx x)) 6 = 3) : yrS p M x = (nx (nx (nx x)), dv (nx x) 8, [(2, dv (nx (nx (nx x))) 8), (8, 0)]) := by
  unfold yrS; rw [if_neg (by omega), if_neg (by omega), if_neg (by omega), if_pos h]
theorem yrS_4 (h : dv (nx (nx x)) 6 = 4) : yrS p M x = (nx (nx (nx x)), dv (nx x) 8, [(0, 1), (2, dv (nx (nx (nx x))) 8), (6, 0)]) := by
  unfold yrS; rw [if_neg (by omega), if_neg (by omega), if_neg (by omega), if_neg (by omega), if_pos h]
theorem yrS_5 (h : dv (nx (nx x)) 6 = 5) : yrS p M x = (nx (nx (nx (nx x))), dv (nx x) 8, [(2, dv (nx (nx (nx x))) 8), (14, dv (nx (nx (nx (nx x)))) M + 1)]) := by
  unfold yrS; rw [if_neg (by omega), if_neg (by omega), if_neg (by omega), if_neg (by omega), if_neg (by omega)]
theorem six {n : Nat} (h : n < 6) : n = 0 ∨ n = 1 ∨ n = 2 ∨ n = 3 ∨ n = 4 ∨ n = 5 := by omega
theorem wfO_r {a : Nat} (h : a < 8) : wfO (2, a) := ⟨by show 2 ≤ 16; omega, by show a ≤ 999; omega, fun _ => h, fun e => absurd e (by show ¬ (2 = 13); omega), fun e => absurd e (by show ¬ (2 = 14); omega)⟩
theorem wfO_n {a : Nat} (h : a ≤ 999) : wfO (0, a) := ⟨by show 0 ≤ 16; omega, h, fun e => absurd e (by show ¬ (0 = 2); omega), fun e => absurd e (by show ¬ (0 = 13); omega), fun e => absurd e (by show ¬ (0 = 14); omega)⟩
theorem wfO_z {w : Nat} (h : w ≤ 16) (h2 : w ≠ 2 ∧ w ≠ 13 ∧ w ≠ 14) : wfO (w, 0) := ⟨h, by show 0 ≤ 999; omega, fun e => absurd e h2.1, fun e => absurd e h2.2.1, fun e => absurd e h2.2.2⟩
theorem yrS_ok (hp : pr p) (hM : 2 ≤ M ∧ M ≤ 24) : okSP (yrS p M x).2 := by
  have hp2 := hp.two
  have hp9 := hp.2
  have r8 : ∀ y, dv y 8 < 8 := fun y => dv_lt (by omega)
  have r6 : dv (nx (nx x)) 6 < 6 := dv_lt (by omega)
  have rp : ∀ y, dv y p ≤ 999 := fun y => by have := dv_lt (y := y) (j := p) (by omega); omega
  have rM : ∀ y, dv y M < M := fun y => dv_lt (by omega)
  have nil : ∀ o, o ∈ ([] : List (Nat × Nat)) → wfO o := fun o ho => (by cases ho)
  have cs : ∀ {o : Nat × Nat} {l : List (Nat × Nat)}, wfO o → (∀ o, o ∈ l → wfO o) → ∀ q, q ∈ o :: l → wfO q := fun {o l} h1 h2 q hq => by
    rcases List.mem_cons.mp hq with h | h
    · rw [h]; exact h1
    · exact h2 q h
  rcases six r6 with h | h | h | h | h | h
  · rw [yrS_0 h]
    exact ⟨r8 _, ⟨cs (wfO_n (rp _)) (cs (wfO_n (rp _)) (cs (wfO_z (by omega) (by omega)) (cs (wfO_z (by omega) (by omega)) (cs (wfO_z (by omega) (by omega)) nil)))), rfl⟩, by show 5 ≤ 128; omega⟩
  · rw [yrS_1 h]
    exact ⟨r8 _, ⟨cs (wfO_r (r8 _)) (cs (wfO_r (r8 _)) (cs (wfO_z (by omega) (by omega)) nil)), rfl⟩, by show 3 ≤ 128; omega⟩
  · rw [yrS_2 h]
    exact ⟨r8 _, ⟨cs (wfO_r (r8 _)) (cs (wfO_r (r8 _)) (cs (wfO_z (by omega) (by omega)) nil)), rfl⟩, by show 3 ≤ 128; omega⟩
  · rw [yrS_3 h]
    exact ⟨r8 _, ⟨cs (wfO_r (r8 _)) (cs (wfO_z (by omega) (by omega)) nil), rfl⟩, by show 2 ≤ 128; omega⟩
  · rw [yrS_4 h]
    exact ⟨r8 _, ⟨cs (wfO_n (by omega)) (cs (wfO_r (r8 _)) (cs (wfO_z (by omega) (by omega)) nil)), rfl⟩, by show 3 ≤ 128; omega⟩
  · rw [yrS_5 h]
    have := rM (nx (nx (nx (nx x))))
    exact ⟨r8 _, ⟨cs (wfO_r (r8 _)) (cs ⟨by show 14 ≤ 16; omega, by show _ + 1 ≤ 999; omega, fun e => absurd e (by show ¬ (14 = 2); omega), fun e => absurd e (by show ¬ (14 = 13); omega), fun _ => by show 1 ≤ _ + 1; omega⟩ nil), rfl⟩, by show 2 ≤ 128; omega⟩
def yrF (p M : Nat) : Nat → Int64 → ST → List ST → ST × List ST
  | 0, _, s, hs => (s, hs)
  | m + 1, x, s, hs => if (xRun p M s.1 (yrS p M x).2.2 []).1 = -1 then yrF p M m (yrS p M x).1 (dn s (yrS p M x).2.1 (xRun p M s.1 (yrS p M x).2.2 []).2) (pushH hs s) else yrF p M m (yrS p M x).1 s hs
theorem yrF_y {m : Nat} {s : ST} {hs : List ST} (h : (xRun p M s.1 (yrS p M x).2.2 []).1 = -1) : yrF p M (m + 1) x s hs = yrF p M m (yrS p M x).1 (dn s (yrS p M x).2.1 (xRun p M s.1 (yrS p M x).2.2 []).2) (pushH hs s) := if_pos h
theorem yrF_n {m : Nat} {s : ST} {hs : List ST} (h : (xRun p M s.1 (yrS p M x).2.2 []).1 ≠ -1) : yrF p M (m + 1) x s hs = yrF p M m (yrS p M x).1 s hs := if_neg h
end YRS
section YEARS
variable {d : Nat} {g g' : qG} {I I' I0 : qI} {J J' : qJ} {Q : qQ} {t : List Nat} {p M : Nat} {s s' : ST} {hs hs' : List ST} {im im' : Option ST} {sc : SC} {rf : RF} {x1 : Int32} {x2 x : Int64} {r : Nat} {ops : List (Nat × Nat)}
theorem okW.yr (ok : okW p M s hs im sc) (hp : p ≠ 0) (h : (xRun p M s.1 (yrS p M x).2.2 []).1 = -1) : okR p M (xRun p M s.1 (yrS p M x).2.2 []).2 := by
  have hR := ok.ring hp
  have hq := yrS_ok (x := x) hR.1 hR.2.1
  exact xRun_ok hR.1 hR.2.1 hR.2.2.1.1 _ [] hq.2.1.1 hq.2.1.2 (fun f hf => (by cases hf)) h
theorem yrF_ok (hp : p ≠ 0) : ∀ (m : Nat) (x : Int64) (s : ST) (hs : List ST), okW p M s hs im sc → okW p M (yrF p M m x s hs).1 (yrF p M m x s hs).2 im sc
  | 0, _, _, _, ok => ok
  | m + 1, x, s, hs, ok => by
    by_cases h : (xRun p M s.1 (yrS p M x).2.2 []).1 = -1
    · rw [yrF_y h]
      exact yrF_ok hp m _ _ _ (ok.dn hp (yrS_ok (ok.ring hp).1 (ok.ring hp).2.1).1 (ok.yr hp h))
    · rw [yrF_n h]
      exact yrF_ok hp m _ _ _ ok
theorem k_draw (hsh : qSh g) (hx : J 4 17 = x) {j : Nat} (hj : 1 ≤ j ∧ j < 2 ^ 31) {u : Int32} (hu : u = nI j) (k : ∀ J', J' 4 17 = nx x → Q (some (.int (nI (dv (nx x) j)))) g I J') : qC d 141 [.ref 4, .int u] g I J Q := by
  subst hu
  refine w141 hsh (brT (by rw [nI_leI (by omega) (by omega)]; omega) ⟨?_, ?_⟩)
  · rw [nI_lN (by omega), lN_iL, show (0 : Int64) = iL 0 by decide +kernel, iL_eq (by omega) (by omega)]; omega
  · rw [zu_s, hx]
    have h := draw_v (nx x) hj
    unfold nx at h
    rw [h]
    exact k _ zu_s
theorem r_draw (hsh : qSh g) (hx : J 105 28 = x) {j : Nat} (hj : 1 ≤ j ∧ j < 2 ^ 31) {u : Int32} (hu : u = nI j) (k : ∀ J', J' 105 28 = nx x → Q (some (.int (nI (dv (nx x) j)))) g I J') : qC d 235 [.ref 105, .int u] g I J Q := by
  subst hu
  refine w235 hsh ⟨?_, ?_⟩
  · rw [nI_lN (by omega), lN_iL, show (0 : Int64) = iL 0 by decide +kernel, iL_eq (by omega) (by omega)]; omega
  · rw [zu_s, hx]
    have h := draw_v (nx x) hj
    unfold nx at h
    rw [h]
    exact k _ zu_s
/-- a draft under way -/
def kDr (I0 I : qI) (r : Nat) (ops : List (Nat × Nat)) : Prop := (∀ b, b ≠ 7 → b ≠ 8 → b ≠ 9 → b ≠ 10 → I b = I0 b) ∧ I 8 0 = nI 0 ∧ I 7 3 = nI 0 ∧ I 9 0 = nI r ∧ I 7 4 = nI ops.length ∧ ∀ j o, ops[j]? = some o → I 10 j = nI (enc o)
theorem k_addD (hsh : qSh g) (h : kDr I0 I r ops) (hl : ops.length < 320) {o : Nat × Nat} {u v : Int32} (hu : u = nI (kop o.1)) (hv : v = nI o.2) (k : ∀ I', kDr I0 I' r (ops ++ [o]) → Q (some (.int (nI 1))) g I' J) : qC d 33 [.ref 7, .int u, .int v] g I J Q := by
  subst hu hv
  obtain ⟨p1, p2, p3, p4, p5, p6⟩ := h
  refine w33 hsh.draft (brT (by rw [p5, nI_ltI (by omega) (by omega)]; omega) ⟨ops.length, p5, by omega, ?_⟩)
  rw [pk_mul, nI_add]
  refine k _ ⟨fun b b1 b2 b3 b4 => ?_, ?_, ?_, ?_, ?_, fun j q hj => ?_⟩
  · rw [zu_a b1, zu_a (by omega)]; exact p1 b b1 b2 b3 b4
  · rw [zu_a (by omega), zu_a (by omega)]; exact p2
  · rw [zu_k (by omega), zu_a (by omega)]; exact p3
  · rw [zu_a (by omega), zu_a (by omega)]; exact p4
  · rw [zu_s, zu_a (by omega), p5, nI_add, List.length_append]; rfl
  · rw [zu_a (by omega)]
    by_cases hj2 : j < ops.length
    · rw [List.getElem?_append_left hj2] at hj
      rw [zu_k (by omega)]
      exact p6 j q hj
    · rw [List.getElem?_append_right (by omega)] at hj
      have hz : j - ops.length = 0 := by have := getE_lt hj; simpa using this
      rw [hz] at hj
      cases hj
      rw [show j = ops.length by omega, zu_s]
      rfl
theorem k_closeD (hsh : qSh g) (h : kDr I0 I r ops) (hl : ops.length ≤ 320) (k : ∀ I', (∀ b, b ≠ 7 → b ≠ 8 → b ≠ 9 → b ≠ 10 → I' b = I0 b) → I' 8 0 = nI 0 → kCode I' 7 320 [(r, ops)] → Q (some (.int (nI 1))) g I' J) : qC d 32 [.ref 7] g I J Q := by
  obtain ⟨p1, p2, p3, p4, p5, p6⟩ := h
  have ec : cat [(r, ops)] = ops := cat_one _
  refine w32 hsh.draft (brT (by rw [p3, nI_ltI (by omega) (by omega)]; omega) ⟨1, by rw [zu_s, p3, nI_add], by omega, ?_⟩)
  have z8 : qw (qw I 7 3 (I 7 3 + nI 1)) 8 1 (qw I 7 3 (I 7 3 + nI 1) 7 4) 8 0 = nI 0 := by rw [zu_k (by omega), zu_a (by omega)]; exact p2
  refine k _ (fun b b1 b2 b3 b4 => ?_) z8 ⟨?_, by show 1 ≤ 8; omega, ?_, by rw [ec]; exact hl, fun j hj => ?_, fun j q hj => ?_, fun j o hj => ?_⟩
  · rw [zu_a (by omega), zu_a (by omega)]; exact p1 b b1 b2 b3 b4
  · rw [zu_a (by omega), zu_s, p3, nI_add]; rfl
  · rw [zu_a (by omega), zu_k (by omega), ec]; exact p5
  · have hj : j ≤ 1 := hj
    by_cases hj1 : j = 1
    · subst hj1
      rw [zu_s, zu_k (by omega), p5, show off [(r, ops)] 1 = ops.length from by rw [show (1 : Nat) = [(r, ops)].length from rfl, off_all, ec]]
    · have hj0 : j = 0 := by omega
      subst hj0
      exact z8
  · rw [zu_a (by omega), zu_a (by omega)]
    have hj0 : j = 0 := by have := getE_lt hj; simpa using this
    subst hj0
    cases hj
    exact p4
  · rw [ec] at hj
    rw [zu_a (by omega), zu_a (by omega)]
    exact p6 j o hj
theorem k_year (hsh : qSh g) (hR : kR I p M) (h80 : I 8 0 = nI 0) (hx : J 4 17 = x) (k : ∀ I' J', (∀ b, b ≠ 7 → b ≠ 8 → b ≠ 9 → b ≠ 10 → I' b = I b) → I' 8 0 = nI 0 → kCode I' 7 320 [(yrS p M x).2] → J' 4 17 = (yrS p M x).1 → Q none g I' J') : qC (d + 1) 142 [.ref 4] g I J Q := by
  have hp := hR.p2
  have hM := hR.2.2.2
  refine w142 hsh (w30 hsh.draft ⟨rfl, k_draw hsh hx (j := 8) (by omega) rfl (fun J1 e1 => ⟨_, rfl, ?_⟩)⟩)
  refine w31 hsh.draft (brT (by rw [zu_k (by omega), zu_s, nI_ltI (by omega) (by omega)]; omega) ⟨0, by rw [zu_k (by omega), zu_s], by omega, ⟨_, rfl, ?_⟩⟩)
  have D0 : kDr I (qw (qw (qw I 7 3 (nI 0)) 7 4 (nI 0)) (7 + 2) 0 (nI (dv (nx x) 8))) (dv (nx x) 8) [] := by
    refine ⟨fun b b1 b2 b3 b4 => ?_, ?_, ?_, ?_, ?_, fun j o hj => ?_⟩
    · rw [zu_a (by omega), zu_a (by omega), zu_a (by omega)]
    · rw [zu_a (by omega), zu_a (by omega), zu_a (by omega)]; exact h80
    · rw [zu_a (by omega), zu_k (by omega), zu_s]
    · exact zu_s
    · rw [zu_a (by omega), zu_s]; rfl
    · cases hj
  have P : ∀ {I1 : qI} {ops}, kDr I I1 (dv (nx x) 8) ops → I1 12 7 = nI p ∧ I1 12 8 = nI M := fun {I1 ops} h => by
    rw [h.1 12 (by omega) (by omega) (by omega) (by omega)]
    exact ⟨by rw [hR.1, nI_iI], hR.2.1⟩
  refine k_draw hsh e1 (j := 6) (by omega) rfl (fun J2 e2 => ⟨_, rfl, ?_⟩)
  have r6 : dv (nx (nx x)) 6 < 6 := dv_lt (by omega)
  rcases six r6 with h | h | h | h | h | h
  · rw [h]
    rw [yrS_0 h] at k
    refine br0 (k_draw hsh e2 (j := p) (by omega) (P D0).1 (fun J3 e3 => ⟨_, rfl, k_addD hsh D0 (by show 0 < 320; omega) (o := (0, dv (nx (nx (nx x))) p)) rfl rfl (fun I1 D1 => ⟨_, rfl, ?_⟩)⟩))
    refine k_draw hsh e3 (j := p) (by omega) (P D1).1 (fun J4 e4 => ⟨_, rfl, k_addD hsh D1 (by show 1 < 320; omega) (o := (0, dv (nx (nx (nx (nx x)))) p)) rfl rfl (fun I2 D2 => ⟨_, rfl, ?_⟩)⟩)
    exact k_addD hsh D2 (by show 2 < 320; omega) (o := (1, 0)) rfl rfl (fun I3 D3 => ⟨_, rfl, k_addD hsh D3 (by show 3 < 320; omega) (o := (5, 0)) rfl rfl (fun I4 D4 => ⟨_, rfl, k_addD hsh D4 (by show 4 < 320; omega) (o := (3, 0)) rfl rfl (fun I5 D5 => ⟨_, rfl, k_closeD hsh D5 (by show 5 ≤ 320; omega) (fun I6 f6 z6 c6 => ⟨_, rfl, k I6 J4 f6 z6 c6 e4⟩)⟩)⟩)⟩)
  · rw [h]
    rw [yrS_1 h] at k
    refine br1 (brT rfl (w142_117 hsh (k_draw hsh e2 (j := 8) (by omega) rfl (fun J3 e3 => ⟨_, rfl, k_addD hsh D0 (by show 0 < 320; omega) (o := (2, dv (nx (nx (nx x))) 8)) rfl rfl (fun I1 D1 => ⟨_, rfl, ?_⟩)⟩))))
    refine k_draw hsh e3 (j := 8) (by omega) rfl (fun J4 e4 => ⟨_, rfl, k_addD hsh D1 (by show 1 < 320; omega) (o := (2, dv (nx (nx (nx (nx x)))) 8)) rfl rfl (fun I2 D2 => ⟨_, rfl, ?_⟩)⟩)
    exact brT rfl (k_addD hsh D2 (by show 2 < 320; omega) (o := (3, 0)) rfl rfl (fun I3 D3 => ⟨_, rfl, k_closeD hsh D3 (by show 3 ≤ 320; omega) (fun I6 f6 z6 c6 => ⟨_, rfl, k I6 J4 f6 z6 c6 e4⟩)⟩))
  · rw [h]
    rw [yrS_2 h] at k
    refine brN (by decide +kernel) (brN (by decide +kernel) (brT rfl (w142_117 hsh (k_draw hsh e2 (j := 8) (by omega) rfl (fun J3 e3 => ⟨_, rfl, k_addD hsh D0 (by show 0 < 320; omega) (o := (2, dv (nx (nx (nx x))) 8)) rfl rfl (fun I1 D1 => ⟨_, rfl, ?_⟩)⟩)))))
    refine k_draw hsh e3 (j := 8) (by omega) rfl (fun J4 e4 => ⟨_, rfl, k_addD hsh D1 (by show 1 < 320; omega) (o := (2, dv (nx (nx (nx (nx x)))) 8)) rfl rfl (fun I2 D2 => ⟨_, rfl, ?_⟩)⟩)
    exact brN (by decide +kernel) (k_addD hsh D2 (by show 2 < 320; omega) (o := (5, 0)) rfl rfl (fun I3 D3 => ⟨_, rfl, k_closeD hsh D3 (by show 3 ≤ 320; omega) (fun I6 f6 z6 c6 => ⟨_, rfl, k I6 J4 f6 z6 c6 e4⟩)⟩))
  · rw [h]
    rw [yrS_3 h] at k
    exact brN (by decide +kernel) (brN (by decide +kernel) (brN (by decide +kernel) (brT rfl (k_draw hsh e2 (j := 8) (by omega) rfl (fun J3 e3 => ⟨_, rfl, k_addD hsh D0 (by show 0 < 320; omega) (o := (2, dv (nx (nx (nx x))) 8)) rfl rfl (fun I1 D1 => ⟨_, rfl, k_addD hsh D1 (by show 1 < 320; omega) (o := (8, 0)) rfl rfl (fun I3 D3 => ⟨_, rfl, k_closeD hsh D3 (by show 2 ≤ 320; omega) (fun I6 f6 z6 c6 => ⟨_, rfl, k I6 J3 f6 z6 c6 e3⟩)⟩)⟩)⟩)))))
  · rw [h]
    rw [yrS_4 h] at k
    exact brN (by decide +kernel) (brN (by decide +kernel) (brN (by decide +kernel) (brN (by decide +kernel) (brT rfl (k_addD hsh D0 (by show 0 < 320; omega) (o := (0, 1)) rfl rfl (fun I1 D1 => ⟨_, rfl, k_draw hsh e2 (j := 8) (by omega) rfl (fun J3 e3 => ⟨_, rfl, k_addD hsh D1 (by show 1 < 320; omega) (o := (2, dv (nx (nx (nx x))) 8)) rfl rfl (fun I2 D2 => ⟨_, rfl, k_addD hsh D2 (by show 2 < 320; omega) (o := (6, 0)) rfl rfl (fun I3 D3 => ⟨_, rfl, k_closeD hsh D3 (by show 3 ≤ 320; omega) (fun I6 f6 z6 c6 => ⟨_, rfl, k I6 J3 f6 z6 c6 e3⟩)⟩)⟩)⟩)⟩))))))
  · rw [h]
    rw [yrS_5 h] at k
    refine brN (by decide +kernel) (brN (by decide +kernel) (brN (by decide +kernel) (brN (by decide +kernel) (brN (by decide +kernel) (k_draw hsh e2 (j := 8) (by omega) rfl (fun J3 e3 => ⟨_, rfl, k_addD hsh D0 (by show 0 < 320; omega) (o := (2, dv (nx (nx (nx x))) 8)) rfl rfl (fun I1 D1 => ⟨_, rfl, ?_⟩)⟩))))))
    exact k_draw hsh e3 (j := M) (by omega) (P D1).2 (fun J4 e4 => ⟨_, rfl, k_addD hsh D1 (by show 1 < 320; omega) (o := (14, dv (nx (nx (nx (nx x)))) M + 1)) rfl (nI_add _ _) (fun I3 D3 => ⟨_, rfl, k_closeD hsh D3 (by show 2 ≤ 320; omega) (fun I6 f6 z6 c6 => ⟨_, rfl, k I6 J4 f6 z6 c6 e4⟩)⟩)⟩)
/-- behind so many STEPS -/
def kFm (m : Nat) (g g' : qG) (I I' : qI) : Prop := (∀ b, (b < 4 ∨ (105 ≤ b ∧ b < 120)) → I' b = I b) ∧ gGrow g g' ∧ g'.2.2.1 ≤ g.2.2.1 + 4 * m ∧ g'.2.2.2 ≤ g.2.2.2 + 264 * m
theorem kFm.fr {m : Nat} (h : kFm m g g' I I') (hm : m ≤ 40) : kFr g g' I I' := ⟨h.1, h.2.1, by have := h.2.2.1; omega, by have := h.2.2.2; omega⟩
theorem k_yrs_l {n : Nat} (hn : n ≤ 40) (hp : p ≠ 0) {j2 : Int64} : ∀ (m i : Nat) (x : Int64) (s : ST) (hs : List ST) (g : qG) (I : qI) (J : qJ), i + m = n → okW p M s hs im sc → kI g I t p M s hs im sc rf → J 4 17 = x → (∀ g' I' J', kI g' I' t p M (yrF p M m x s hs).1 (yrF p M m x s hs).2 im sc rf → kFm m g g' I I' → Q (some (.int (nI (cntF (fullB (yrF p M m x s hs).1.1) 8)))) g' I' J') → qev (d + 10) 114 (28, [.ref 4, .int (nI n), .long j2, qpad, .int (nI i)], [], g, I, J) Q := by
  intro m
  induction m with
  | zero =>
    intro i x s hs g I J hi ok h hx k
    refine w114_28 h.1.1 (brT (by rw [nI_leI (by omega) (by omega)]; omega) (k_fill8 (h.1.1.sta rfl (by omega)) h.2.2.2.2.2.1.1 ok.bd.1.1 ⟨_, rfl, k g I J h ⟨fun _ _ => rfl, gGrow.refl g, by omega, by omega⟩⟩))
  | succ m ih =>
    intro i x s hs g I J hi ok h hx k
    have hR := ok.ring hp
    have hq := yrS_ok (x := x) hR.1 hR.2.1
    have hb := why_bd (p := p) (M := M) (regs := s.1) (yrS p M x).2.2 []
    refine w114_28 h.1.1 (brN (by rw [nI_leI (by omega) (by omega)]; omega) (k_year h.1.1 (h.2.2.2.2.1.R ok hp) h.2.2.1 hx (fun I1 J1 f1 z1 c1 e1 => ⟨rfl, ?_⟩)))
    have h1 : kI g I1 t p M s hs im sc rf := h.keep ⟨fun b hb => f1 b (by omega) (by omega) (by omega) (by omega), by rw [f1 4 (by omega) (by omega) (by omega) (by omega)], by rw [f1 4 (by omega) (by omega) (by omega) (by omega)], by rw [f1 4 (by omega) (by omega) (by omega) (by omega)], by rw [z1, h.2.2.1]⟩
    refine k_work h1.1.1 h1.1.1.draft (Or.inl rfl) (h1.2.2.2.2.1.R ok hp) (h1.1.1.sta rfl (by omega)) (by omega) h1.2.2.2.2.2.1.1 hR.2.2.1.1 (kCode.ops c1 (by omega) (j := 0) rfl) hq.2.1 (fun I2 s2 f2 => ⟨_, rfl, ?_⟩)
    have h2 := (h1.wf f2).1
    have F2 : ∀ b, (b < 4 ∨ (105 ≤ b ∧ b < 120)) → I2 b = I b := fun b hb => by rw [(h1.wf f2).2.1 b hb, f1 b (by omega) (by omega) (by omega) (by omega)]
    rw [nI_add]
    by_cases he : (xRun p M s.1 (yrS p M x).2.2 []).1 = -1
    · rw [yrF_y he] at k
      refine brT (by rw [he]; exact iI_zm1.symm) ?_
      refine k_settle (d := d + 7) ok hp h2 (ok.yr hp he) (s2 he) hq.1 (by rw [f2 9 (by omega)]; exact c1.2.2.2.2.2.1 0 _ rfl) (fun g3 I3 J3 h3 F3 => ⟨_, rfl, h3.1.1, ?_⟩)
      refine ih (i + 1) _ _ _ g3 I3 J3 (by omega) (ok.dn hp hq.1 (ok.yr hp he)) h3 (by rw [F3.2.2.2 4 (by omega)]; exact e1) (fun g4 I4 J4 h4 F4 => k g4 I4 J4 h4 ?_)
      have a1 := F3.2.2.1.1
      have a2 := F3.2.2.1.2
      have a3 := F4.2.2.1
      have a4 := F4.2.2.2
      have a5 := F3.2.1
      have a6 := F4.2.1
      exact ⟨fun b hb => by rw [F4.1 b hb, F3.1 b (by omega), F2 b hb], ⟨by have := a5.1; have := a6.1; omega, fun a ha => by rw [a6.2 a (by have := a5.1; omega), a5.2 a ha]⟩, by omega, by omega⟩
    · rw [yrF_n he] at k
      refine brN (fun e => he ((iI_neg1 hb).mp e)) (ih (i + 1) _ _ _ g I2 J1 (by omega) ok h2 e1 (fun g4 I4 J4 h4 F4 => k g4 I4 J4 h4 ?_))
      have a3 := F4.2.2.1
      have a4 := F4.2.2.2
      exact ⟨fun b hb => by rw [F4.1 b hb, F2 b hb], F4.2.1, by omega, by omega⟩
/-- a row of codes under way -/
def rDr (I0 I : qI) (r : Nat) (ops : List (Nat × Nat)) : Prop := rKp I0 I ∧ I 105 14 = nI 40 ∧ I 107 40 = nI r ∧ rOps I 40 ops
theorem r_saysD (hsh : qSh g) (h : rDr I0 I r ops) (hl : ops.length < 140) {o : Nat × Nat} {u v : Int32} (hu : u = nI o.1) (hv : v = nI o.2) (k : ∀ I', rDr I0 I' r (ops ++ [o]) → Q none g I' J) : qC d 162 [.ref 105, .int u, .int v] g I J Q := by
  subst hu hv
  obtain ⟨kp, p1, p2, q1, q2, q3⟩ := h
  refine r_says0 hsh p1 (by omega) q1 hl (k _ ⟨kp.trans ⟨fun b b1 b2 b3 b4 b5 b6 b7 b8 b9 => ?_, fun f hf => ?_, fun j hj => ⟨?_, ?_⟩, fun j hj => ?_, fun j hj => ?_⟩, ?_, ?_, ?_, ?_, fun j q hj => ?_⟩)
  · rw [zu_a b3, zu_a b4, zu_a b4]
  · rw [zu_a (by omega), zu_a (by omega), zu_a (by omega)]
  · rw [zu_a (by omega), zu_a (by omega), zu_a (by omega)]
  · rw [zu_k (by omega), zu_a (by omega), zu_a (by omega)]
  · rw [zu_a (by omega), zu_k (by omega), zu_k (by omega)]
  · rw [zu_a (by omega), zu_a (by omega), zu_a (by omega)]
  · rw [zu_a (by omega), zu_a (by omega), zu_a (by omega)]; exact p1
  · rw [zu_a (by omega), zu_a (by omega), zu_a (by omega)]; exact p2
  · rw [zu_s, List.length_append]; rfl
  · rw [List.length_append]; show ops.length + 1 ≤ 140; omega
  · rw [zu_a (by omega)]
    by_cases hj2 : j < ops.length
    · rw [List.getElem?_append_left hj2] at hj
      obtain ⟨r1, r2⟩ := q3 j q hj
      exact ⟨by rw [zu_k (by omega), zu_k (by omega)]; exact r1, fun hq => by rw [zu_k (by omega), zu_k (by omega)]; exact r2 hq⟩
    · rw [List.getElem?_append_right (by omega)] at hj
      have hz : j - ops.length = 0 := by have := getE_lt hj; simpa using this
      rw [hz] at hj
      cases hj
      rw [show j = ops.length by omega]
      exact ⟨by rw [zu_k (by omega), zu_s], fun _ => by rw [zu_s]⟩
theorem r_year (hsh : qSh g) (hR : rR I p M) (hx : J 105 28 = x) (k : ∀ I' J', rKp I I' → I' 107 40 = nI (yrS p M x).2.1 → rOps I' 40 (yrS p M x).2.2 → J' 105 28 = (yrS p M x).1 → Q none g I' J') : qC (d + 1) 236 [.ref 105] g I J Q := by
  have hp := hR.p2
  have hM := hR.2.2.2
  refine w236 hsh ⟨40, zu_s, by omega, r_draw hsh hx (j := 8) (by omega) rfl (fun J1 e1 => ⟨_, rfl, 40, by rw [zu_a (by omega), zu_s], by omega, ?_⟩)⟩
  have D0 : rDr I (qw (qw (qw I 105 14 (nI 40)) 108 40 (nI 0)) 107 40 (nI (dv (nx x) 8))) (dv (nx x) 8) [] := by
    refine ⟨⟨fun b b1 b2 b3 b4 b5 b6 b7 b8 b9 => ?_, fun f hf => ?_, fun j hj => ⟨?_, ?_⟩, fun j hj => ?_, fun j hj => ?_⟩, ?_, ?_, ?_, ?_, fun j q hj => ?_⟩
    · rw [zu_a b2, zu_a b3, zu_a b1]
    · rw [zu_a (by omega), zu_a (by omega), zu_k (by omega)]
    · rw [zu_k (by omega), zu_a (by omega), zu_a (by omega)]
    · rw [zu_a (by omega), zu_k (by omega), zu_a (by omega)]
    · rw [zu_a (by omega), zu_a (by omega), zu_a (by omega)]
    · rw [zu_a (by omega), zu_a (by omega), zu_a (by omega)]
    · rw [zu_a (by omega), zu_a (by omega), zu_s]
    · exact zu_s
    · rw [zu_a (by omega), zu_s]; rfl
    · show 0 ≤ 140; omega
    · cases hj
  have P : ∀ {I1 : qI} {ops}, rDr I I1 (dv (nx x) 8) ops → I1 105 7 = nI p ∧ I1 105 8 = nI M := fun {I1 ops} h => ⟨by rw [h.1.2.1 7 (by omega), hR.1, nI_iI], by rw [h.1.2.1 8 (by omega)]; exact hR.2.1⟩
  have fin : ∀ {I1 : qI} {J1 : qJ} {ops} {z : Int64}, rDr I I1 (dv (nx x) 8) ops → J1 105 28 = z → (yrS p M x) = (z, dv (nx x) 8, ops) → Q none g I1 J1 := fun {I1 J1 ops z} h e q => by
    rw [q] at k
    exact k I1 J1 h.1 h.2.2.1 h.2.2.2 e
  refine r_draw hsh e1 (j := 6) (by omega) rfl (fun J2 e2 => ⟨_, rfl, ?_⟩)
  have r6 : dv (nx (nx x)) 6 < 6 := dv_lt (by omega)
  rcases six r6 with h | h | h | h | h | h
  · rw [h]
    refine br0 (r_draw hsh e2 (j := p) (by omega) (P D0).1 (fun J3 e3 => ⟨_, rfl, r_saysD hsh D0 (by show 0 < 140; omega) (o := (0, dv (nx (nx (nx x))) p)) rfl rfl (fun I1 D1 => ⟨rfl, ?_⟩)⟩))
    refine r_draw hsh e3 (j := p) (by omega) (P D1).1 (fun J4 e4 => ⟨_, rfl, r_saysD hsh D1 (by show 1 < 140; omega) (o := (0, dv (nx (nx (nx (nx x)))) p)) rfl rfl (fun I2 D2 => ⟨rfl, ?_⟩)⟩)
    exact r_saysD hsh D2 (by show 2 < 140; omega) (o := (1, 0)) rfl rfl (fun I3 D3 => ⟨rfl, r_saysD hsh D3 (by show 3 < 140; omega) (o := (5, 0)) rfl rfl (fun I4 D4 => ⟨rfl, r_saysD hsh D4 (by show 4 < 140; omega) (o := (3, 0)) rfl rfl (fun I5 D5 => ⟨rfl, fin D5 e4 (yrS_0 h)⟩)⟩)⟩)
  · rw [h]
    refine brN (by decide +kernel) (brN (by decide +kernel) (r_draw hsh e2 (j := 8) (by omega) rfl (fun J3 e3 => ⟨_, rfl, r_saysD hsh D0 (by show 0 < 140; omega) (o := (2, dv (nx (nx (nx x))) 8)) rfl rfl (fun I1 D1 => ⟨rfl, brN (by decide +kernel) ?_⟩)⟩)))
    refine r_draw hsh e3 (j := 8) (by omega) rfl (fun J4 e4 => ⟨_, rfl, r_saysD hsh D1 (by show 1 < 140; omega) (o := (2, dv (nx (nx (nx (nx x)))) 8)) rfl rfl (fun I2 D2 => ⟨rfl, ?_⟩)⟩)
    exact w236_125 hsh ⟨fun _ => r_saysD hsh D2 (by show 2 < 140; omega) (o := (3, 0)) rfl rfl (fun I3 D3 => ⟨rfl, fin D3 e4 (yrS_1 h)⟩), fun e => absurd e (by decide +kernel), fun e => absurd e (by decide +kernel), fun e => absurd e (by decide +kernel), fun e => absurd rfl e.1⟩
  · rw [h]
    refine brN (by decide +kernel) (brN (by decide +kernel) (r_draw hsh e2 (j := 8) (by omega) rfl (fun J3 e3 => ⟨_, rfl, r_saysD hsh D0 (by show 0 < 140; omega) (o := (2, dv (nx (nx (nx x))) 8)) rfl rfl (fun I1 D1 => ⟨rfl, brN (by decide +kernel) ?_⟩)⟩)))
    refine r_draw hsh e3 (j := 8) (by omega) rfl (fun J4 e4 => ⟨_, rfl, r_saysD hsh D1 (by show 1 < 140; omega) (o := (2, dv (nx (nx (nx (nx x)))) 8)) rfl rfl (fun I2 D2 => ⟨rfl, ?_⟩)⟩)
    exact w236_125 hsh ⟨fun e => absurd e (by decide +kernel), fun _ => r_saysD hsh D2 (by show 2 < 140; omega) (o := (5, 0)) rfl rfl (fun I3 D3 => ⟨rfl, fin D3 e4 (yrS_2 h)⟩), fun e => absurd e (by decide +kernel), fun e => absurd e (by decide +kernel), fun e => absurd rfl e.2.1⟩
  · rw [h]
    refine brN (by decide +kernel) (brN (by decide +kernel) (r_draw hsh e2 (j := 8) (by omega) rfl (fun J3 e3 => ⟨_, rfl, r_saysD hsh D0 (by show 0 < 140; omega) (o := (2, dv (nx (nx (nx x))) 8)) rfl rfl (fun I1 D1 => ⟨rfl, brT (by decide +kernel) ?_⟩)⟩)))
    exact w236_125 hsh ⟨fun e => absurd e (by decide +kernel), fun e => absurd e (by decide +kernel), fun _ => r_saysD hsh D1 (by show 1 < 140; omega) (o := (8, 0)) rfl rfl (fun I3 D3 => ⟨rfl, fin D3 e3 (yrS_3 h)⟩), fun e => absurd e (by decide +kernel), fun e => absurd rfl e.2.2.1⟩
  · rw [h]
    refine brN (by decide +kernel) (brT rfl (r_saysD hsh D0 (by show 0 < 140; omega) (o := (0, 1)) rfl rfl (fun I1 D1 => ⟨rfl, r_draw hsh e2 (j := 8) (by omega) rfl (fun J3 e3 => ⟨_, rfl, r_saysD hsh D1 (by show 1 < 140; omega) (o := (2, dv (nx (nx (nx x))) 8)) rfl rfl (fun I2 D2 => ⟨rfl, brT (by decide +kernel) ?_⟩)⟩)⟩)))
    exact w236_125 hsh ⟨fun e => absurd e (by decide +kernel), fun e => absurd e (by decide +kernel), fun e => absurd e (by decide +kernel), fun _ => r_saysD hsh D2 (by show 2 < 140; omega) (o := (6, 0)) rfl rfl (fun I3 D3 => ⟨rfl, fin D3 e3 (yrS_4 h)⟩), fun e => absurd rfl e.2.2.2⟩
  · rw [h]
    refine brN (by decide +kernel) (brN (by decide +kernel) (r_draw hsh e2 (j := 8) (by omega) rfl (fun J3 e3 => ⟨_, rfl, r_saysD hsh D0 (by show 0 < 140; omega) (o := (2, dv (nx (nx (nx x))) 8)) rfl rfl (fun I1 D1 => ⟨rfl, brT (by decide +kernel) ?_⟩)⟩)))
    exact w236_125 hsh ⟨fun e => absurd e (by decide +kernel), fun e => absurd e (by decide +kernel), fun e => absurd e (by decide +kernel), fun e => absurd e (by decide +kernel), fun _ => r_draw hsh e3 (j := M) (by omega) (P D1).2 (fun J4 e4 => ⟨_, rfl, r_saysD hsh D1 (by show 1 < 140; omega) (o := (14, dv (nx (nx (nx (nx x)))) M + 1)) rfl (nI_add _ _) (fun I3 D3 => ⟨rfl, fin D3 e4 (yrS_5 h)⟩)⟩)⟩
theorem r_yrs_l (hsh : qSh g) {n : Nat} (hn : n ≤ 40) (hp : p ≠ 0) {j2 : Int64} : ∀ (m i : Nat) (x : Int64) (s : ST) (hs : List ST) (I : qI) (J : qJ) (w5 : Value), i + m = n → okW p M s hs im sc → rI I t p M s hs im sc rf → J 105 28 = x → (∀ I' J', rI I' t p M (yrF p M m x s hs).1 (yrF p M m x s hs).2 im sc rf → rFw I I' → Q (some (.int (nI (cntF (fullB (yrF p M m x s hs).1.1) 8)))) g I' J') → qev (d + 10) 238 (34, [.ref 105, .int (nI n), .long j2, qpad, .int (nI i), w5], [], g, I, J) Q := by
  intro m
  induction m with
  | zero =>
    intro i x s hs I J w5 hi ok h hx k
    exact w238_34 hsh (brT (by rw [nI_leI (by omega) (by omega)]; omega) (r_many hsh h.2.2.1.1 ok.bd.1.1 ⟨_, rfl, k I J h (rFw.refl I)⟩))
  | succ m ih =>
    intro i x s hs I J w5 hi ok h hx k
    have hR := ok.ring hp
    have hq := yrS_ok (x := x) hR.1 hR.2.1
    have hb := why_bd (p := p) (M := M) (regs := s.1) (yrS p M x).2.2 []
    refine w238_34 hsh (brN (by rw [nI_leI (by omega) (by omega)]; omega) (r_year hsh (h.2.1.R ok hp) hx (fun I1 J1 f1 t1 c1 e1 => ⟨rfl, ?_⟩)))
    have h1 := h.keep ok f1
    rw [nI_add]
    refine r_tryI (d := d + 1) hsh ok hp h1 hq t1 c1 (fun he I2 h2 f2 => ⟨_, rfl, ?_⟩) (fun he I2 h2 f2 _ => ⟨_, rfl, ?_⟩)
    · rw [yrF_n he] at k
      exact ih (i + 1) _ _ _ I2 J1 _ (by omega) ok h2 e1 (fun I3 J3 h3 f3 => k I3 J3 h3 (fun b hb => by rw [f3 b hb, f2 b hb, f1.fr b hb]))
    · rw [yrF_y he] at k
      exact ih (i + 1) _ _ _ I2 J1 _ (by omega) (ok.dn hp hq.1 (ok.yr hp he)) h2 e1 (fun I3 J3 h3 f3 => k I3 J3 h3 (fun b hb => by rw [f3 b hb, f2 b hb, f1.fr b hb]))
theorem c_years (ok : okW p M s hs im sc) : bOK 114 238 [.int x1, .long x2] (t, p, M, s, hs, im, sc, rf) := by
  obtain ⟨z, hz, hz1, hz2⟩ := iI_of x1
  subst hz
  have e1 : (iI z < nI 1) ↔ z < 1 := by rw [nI_iI, iI_lt (by omega) (by omega)]; exact Iff.rfl
  have e2 : (iI z ≤ nI 40) ↔ z ≤ 40 := by rw [nI_iI, iI_le (by omega) (by omega)]; exact Iff.rfl
  by_cases hA : p ≠ 0 ∧ 1 ≤ z ∧ z ≤ 40
  · obtain ⟨hp, h1, h2⟩ := hA
    obtain ⟨n, rfl⟩ : ∃ n : Nat, z = n := ⟨z.toNat, by omega⟩
    refine ⟨nI (cntF (fullB (yrF p M n x2 s hs).1.1) 8), (t, p, M, (yrF p M n x2 s hs).1, (yrF p M n x2 s hs).2, im, sc, rf), yrF_ok hp n x2 s hs ok, fun d g I J Q h k => ?_, fun d g I J Q hsh h k => ?_⟩
    · have h : kI g I t p M s hs im sc rf := h
      refine w114 h.1.1 (h.2.2.2.2.1.tt (fun h0 => absurd h0 hp) (fun _ => brN (by rw [e1]; omega) (brT (by rw [e2]; omega) ?_)))
      rw [← nI_iI n]
      exact k_yrs_l (d := d + 80) (n := n) (by omega) hp n 0 x2 s hs g I _ (by omega) ok h zu_s (fun g1 I1 J1 h1 F1 => k g1 I1 J1 h1 (F1.fr (by omega)))
    · have h2 := rI.keep h ok rKp.th
      refine w238 hsh (h2.2.1.tt ok.p_lt (fun h0 => absurd h0 hp) (fun _ => r_isIn (a := n) (b := 1) (c := 40) (by rw [iI_l (by omega)]) (lN_iL 1) (lN_iL 40) (by omega) (by omega) (by omega) (fun _ => ⟨_, rfl, br1 ?_⟩) (fun h0 => absurd (by omega) h0)))
      rw [← nI_iI n]
      exact r_yrs_l (d := d + 80) hsh (n := n) (by omega) hp n 0 x2 s hs _ _ _ (by omega) ok h2 zu_s (fun I1 J1 h1 F1 => k I1 J1 h1 (fun b hb => by rw [F1 b hb, zu_a (by omega)]))
  · refine ⟨-1, (t, p, M, s, hs, im, sc, rf), ok, fun d g I J Q h k => ?_, fun d g I J Q hsh h k => ?_⟩
    · have h : kI g I t p M s hs im sc rf := h
      have k := k g I J h (kFr.refl g I)
      refine w114 h.1.1 (h.2.2.2.2.1.tt (fun _ => k) (fun hp => ⟨fun _ => k, fun h1 => ⟨fun h2 => ?_, fun _ => k⟩⟩))
      rw [e1] at h1
      rw [e2] at h2
      exact absurd ⟨hp, by omega, h2⟩ hA
    · have h2 := rI.keep h ok rKp.th
      have k := k _ J h2 rKp.th.fr
      exact w238 hsh (h2.2.1.tt ok.p_lt (fun _ => k) (fun hp => r_isIn (a := z) (b := 1) (c := 40) (by rw [iI_l (by omega)]) (lN_iL 1) (lN_iL 40) (by omega) (by omega) (by omega) (fun h1 => absurd ⟨hp, h1.1, h1.2⟩ hA) (fun _ => ⟨_, rfl, br0 k⟩)))
end YEARS
