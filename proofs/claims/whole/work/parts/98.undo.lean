/-! calls: undo, image, back, log, count -/
def bitsF (P : Nat → Bool) : Nat → Nat
  | 0 => 0
  | k + 1 => bitsF P k + (if P k = true then 2 ^ k else 0)
def cntF (P : Nat → Bool) : Nat → Nat
  | 0 => 0
  | k + 1 => cntF P k + (if P k = true then 1 else 0)
theorem bitsF_lt (P : Nat → Bool) : ∀ k, bitsF P k < 2 ^ k
  | 0 => by simp [bitsF, cntF]
  | k + 1 => by
    have := bitsF_lt P k
    have e : 2 ^ (k + 1) = 2 ^ k + 2 ^ k := by rw [Nat.pow_succ]; omega
    unfold bitsF
    split <;> omega
theorem cntF_le (P : Nat → Bool) : ∀ k, cntF P k ≤ k
  | 0 => by simp [bitsF, cntF]
  | k + 1 => by
    have := cntF_le P k
    unfold cntF
    split <;> omega
theorem orb_all : (List.range 8).all (fun i => (List.range 256).all (fun B => !(Nat.blt B (2 ^ i)) || decide (nI B ||| qshl (nI 1) (nI i) = nI (B + 2 ^ i)))) = true := by decide +kernel
theorem orb {i B : Nat} (hi : i < 8) (hB : B < 2 ^ i) : nI B ||| qshl (nI 1) (nI i) = nI (B + 2 ^ i) := by
  have h256 : B < 256 := Nat.lt_of_lt_of_le hB (show 2 ^ i ≤ 2 ^ 8 from Nat.pow_le_pow_right (by decide) (by omega))
  have h := List.all_eq_true.mp (List.all_eq_true.mp orb_all i (List.mem_range.mpr hi)) B (List.mem_range.mpr h256)
  have h2 : Nat.blt B (2 ^ i) = true := by rw [Nat.blt_eq]; exact hB
  rw [h2] at h
  exact of_decide_eq_true h
theorem or0 {B : Nat} (hB : B < 256) : nI B ||| nI 0 = nI B := by
  have h : (List.range 256).all (fun B => decide (nI B ||| nI 0 = nI B)) = true := by decide +kernel
  exact of_decide_eq_true (List.all_eq_true.mp h B (List.mem_range.mpr hB))
def bcV (x1 : Int32) : Int32 := ((((((((x1 - ((qushr x1 (nI 1)) &&& (nI 1431655765))) &&& (nI 858993459)) + ((qushr (x1 - ((qushr x1 (nI 1)) &&& (nI 1431655765))) (nI 2)) &&& (nI 858993459))) + (qushr (((x1 - ((qushr x1 (nI 1)) &&& (nI 1431655765))) &&& (nI 858993459)) + ((qushr (x1 - ((qushr x1 (nI 1)) &&& (nI 1431655765))) (nI 2)) &&& (nI 858993459))) (nI 4))) &&& (nI 252645135)) + (qushr (((((x1 - ((qushr x1 (nI 1)) &&& (nI 1431655765))) &&& (nI 858993459)) + ((qushr (x1 - ((qushr x1 (nI 1)) &&& (nI 1431655765))) (nI 2)) &&& (nI 858993459))) + (qushr (((x1 - ((qushr x1 (nI 1)) &&& (nI 1431655765))) &&& (nI 858993459)) + ((qushr (x1 - ((qushr x1 (nI 1)) &&& (nI 1431655765))) (nI 2)) &&& (nI 858993459))) (nI 4))) &&& (nI 252645135)) (nI 8))) + (qushr ((((((x1 - ((qushr x1 (nI 1)) &&& (nI 1431655765))) &&& (nI 858993459)) + ((qushr (x1 - ((qushr x1 (nI 1)) &&& (nI 1431655765))) (nI 2)) &&& (nI 858993459))) + (qushr (((x1 - ((qushr x1 (nI 1)) &&& (nI 1431655765))) &&& (nI 858993459)) + ((qushr (x1 - ((qushr x1 (nI 1)) &&& (nI 1431655765))) (nI 2)) &&& (nI 858993459))) (nI 4))) &&& (nI 252645135)) + (qushr (((((x1 - ((qushr x1 (nI 1)) &&& (nI 1431655765))) &&& (nI 858993459)) + ((qushr (x1 - ((qushr x1 (nI 1)) &&& (nI 1431655765))) (nI 2)) &&& (nI 858993459))) + (qushr (((x1 - ((qushr x1 (nI 1)) &&& (nI 1431655765))) &&& (nI 858993459)) + ((qushr (x1 - ((qushr x1 (nI 1)) &&& (nI 1431655765))) (nI 2)) &&& (nI 858993459))) (nI 4))) &&& (nI 252645135)) (nI 8))) (nI 16))) &&& (nI 63))
def bN8 (b : Bool) (n : Nat) : Nat := if b = true then n else 0
theorem bc_all : ∀ b0 b1 b2 b3 b4 b5 b6 b7 : Bool, bcV (nI (((((((((0 + bN8 b0 1) + bN8 b1 2) + bN8 b2 4) + bN8 b3 8) + bN8 b4 16) + bN8 b5 32) + bN8 b6 64) + bN8 b7 128))) = nI (((((((((0 + bN8 b0 1) + bN8 b1 1) + bN8 b2 1) + bN8 b3 1) + bN8 b4 1) + bN8 b5 1) + bN8 b6 1) + bN8 b7 1)) := by decide +kernel
theorem bc_bits (P : Nat → Bool) : bcV (nI (bitsF P 8)) = nI (cntF P 8) := bc_all (P 0) (P 1) (P 2) (P 3) (P 4) (P 5) (P 6) (P 7)
def fullB (regs : Nat → Sr) (r : Nat) : Bool := !(Nat.beq (regs r).1 0)
theorem fullB_iff {regs : Nat → Sr} {r : Nat} : fullB regs r = true ↔ (regs r).1 ≠ 0 := by
  unfold fullB
  cases h : Nat.beq (regs r).1 0 with
  | true => have := Nat.eq_of_beq_eq_true h; simp [this]
  | false => exact ⟨fun _ e => (by rw [e] at h; cases h), fun _ => rfl⟩
section UNDOS
variable {d : Nat} {g : qG} {I I' : qI} {J : qJ} {Q : qQ} {t : List Nat} {p M : Nat} {s s' : ST} {hs hs' : List ST} {im im' : Option ST} {sc : SC} {rf : RF} {x x1 x2 : Int32} {regs : Nat → Sr} {a r q : Nat}
theorem k_bits_l (ha : qSta g a) (hG : kG I a regs) (hb : ∀ r, r < 8 → (regs r).1 ≤ 24) (k : Q (some (.int (nI (bitsF (fullB regs) 8)))) g I J) : ∀ f i, i + f = 8 → qev d 89 (4, [.ref a, .int (nI (bitsF (fullB regs) i)), .int (nI i)], [], g, I, J) Q
  | 0, i, hi => by
    have e : i = 8 := by omega
    subst e
    exact w89_4 ha (brT (by rw [nI_leI (by omega) (by omega)]; omega) k)
  | f + 1, i, hi => by
    have hbi := hb i (by omega)
    refine w89_4 ha (brN (by rw [nI_leI (by omega) (by omega)]; omega) ⟨i, rfl, by omega, ?_⟩)
    rw [(hG i (by omega)).1, ← nI_0, nI_leI (by omega) (by omega), nI_add, orb (by omega) (bitsF_lt _ i)]
    have ih := k_bits_l ha hG hb k f (i + 1) (by omega)
    by_cases h0 : (regs i).1 ≤ 0
    · refine brT h0 ?_
      rw [bitsF, if_neg (fun e => fullB_iff.mp e (by omega))] at ih
      exact ih
    · refine brN h0 ?_
      rw [bitsF, if_pos (fullB_iff.mpr (by omega))] at ih
      exact ih
theorem k_bits (ha : qSta g a) (hG : kG I a regs) (hb : ∀ r, r < 8 → (regs r).1 ≤ 24) (k : Q (some (.int (nI (bitsF (fullB regs) 8)))) g I J) : qC d 89 [.ref a] g I J Q := w89 ha (k_bits_l ha hG hb k 8 0 (by omega))
theorem k_fill8 (ha : qSta g a) (hG : kG I a regs) (hb : ∀ r, r < 8 → (regs r).1 ≤ 24) (k : Q (some (.int (nI (cntF (fullB regs) 8)))) g I J) : qC (d + 1) 88 [.ref a] g I J Q := by
  refine w88 ha (k_bits ha hG hb ⟨_, rfl, w267 ⟨_, rfl, ?_⟩⟩)
  show Q (some (.int (bcV (nI (bitsF (fullB regs) 8))))) g I J
  rw [bc_bits]; exact k
theorem r_many_l (hsh : qSh g) (hG : rG I 111 0 regs) (hb : ∀ r, r < 8 → (regs r).1 ≤ 24) (k : Q (some (.int (nI (cntF (fullB regs) 8)))) g I J) : ∀ f i, i + f = 8 → qev d 237 (4, [.ref 105, .int (nI (cntF (fullB regs) i)), .int (nI i)], [], g, I, J) Q
  | 0, i, hi => by
    have e : i = 8 := by omega
    subst e
    exact w237_4 hsh (brT (by rw [nI_leI (by omega) (by omega)]; omega) k)
  | f + 1, i, hi => by
    have hbi := hb i (by omega)
    have hg := (hG i (by omega)).1
    rw [show 0 + 25 * i = 25 * i by omega] at hg
    refine w237_4 hsh (brN (by rw [nI_leI (by omega) (by omega)]; omega) ⟨25 * i, pk_mul 25 i, by omega, ?_⟩)
    rw [hg, ← nI_0, nI_leI (by omega) (by omega), nI_add, nI_add, nI_add]
    have ih := r_many_l hsh hG hb k f (i + 1) (by omega)
    by_cases h0 : (regs i).1 ≤ 0
    · refine brT h0 ?_
      rw [cntF, if_neg (fun e => fullB_iff.mp e (by omega))] at ih
      exact ih
    · refine brN h0 ?_
      rw [cntF, if_pos (fullB_iff.mpr (by omega))] at ih
      exact ih
theorem r_many (hsh : qSh g) (hG : rG I 111 0 regs) (hb : ∀ r, r < 8 → (regs r).1 ≤ 24) (k : Q (some (.int (nI (cntF (fullB regs) 8)))) g I J) : qC d 237 [.ref 105] g I J Q := w237 (r_many_l hsh hG hb k 8 0 (by omega))
theorem kI.hist (h : kI g I t p M s hs im sc rf) (f : ∀ b, b ≠ 101 → (b < 89 ∨ 92 < b) → I' b = I b) (S : kSt I' 89 s') (H : ∃ nx, kH g I' nx hs') : kI g I' t p M s' hs' im sc rf := by
  obtain ⟨hg, hrc, h80, hT, hR, hS, ⟨nx, hH⟩, hM, hC, hf⟩ := h
  exact ⟨hg, hrc, by rw [f 8 (by omega) (by omega)]; exact h80, hT.keep (f 5 (by omega) (by omega)) (f 6 (by omega) (by omega)), hR.keep (by rw [f 4 (by omega) (by omega)]) (f 12 (by omega) (by omega)), S, H, hM.keep (by rw [f 4 (by omega) (by omega)]) (fun b b1 b2 => f b (by omega) (by omega)), hC.keepE (fun _ => rfl) (Nat.le_refl _) (fun x n _ _ h3 => h3) (by rw [f 4 (by omega) (by omega)]) (fun x n h1 h2 h3 b b1 b2 => f b (by omega) (by omega)), fun i hi => by rw [f 104 (by omega) (by omega)]; exact hf i hi⟩
theorem rI.hist (h : rI I t p M s hs im sc rf) (f : ∀ b, b ≠ 105 → b ≠ 111 → I' b = I b) (f2 : ∀ k, k ≠ 0 → k ≠ 22 → I' 105 k = I 105 k) (S : rSt I' 111 0 s') (H : ∃ fs, rH I' fs hs') : rI I' t p M s' hs' im sc rf := by
  obtain ⟨hT, hR, hS, ⟨fs, hH⟩, hM, hC, hf⟩ := h
  exact ⟨hT.keep (f2 2 (by omega) (by omega)) (f 106 (by omega) (by omega)), ⟨by rw [f2 7 (by omega) (by omega)]; exact hR.1, fun hp => by rw [f2 8 (by omega) (by omega)]; exact hR.2 hp⟩, S, H, hM.keep (f2 23 (by omega) (by omega)) (f 113 (by omega) (by omega)), ⟨by rw [f2 13 (by omega) (by omega)]; exact hC.1, fun j ss hj => ⟨by rw [f 110 (by omega) (by omega)]; exact (hC.2 j ss hj).1, fun i q hi => ⟨by rw [f 107 (by omega) (by omega)]; exact ((hC.2 j ss hj).2 i q hi).1, ((hC.2 j ss hj).2 i q hi).2.keepS (by rw [f 108 (by omega) (by omega)]) (fun i _ _ => by rw [f 109 (by omega) (by omega)])⟩⟩⟩, fun i hi => by rw [f 116 (by omega) (by omega)]; exact hf i hi⟩
theorem okW.pop (ok : okW p M s hs im sc) (h : hs.getLast? = some s') : okW p M s' (popH hs) im sc := by
  have hm : s' ∈ hs := List.mem_of_getLast? h
  have hp : p ≠ 0 := fun h0 => by rw [(ok.no h0).2.1] at hm; cases hm
  obtain ⟨h1, h2, h3, h4, h5⟩ := ok.ring hp
  exact ⟨Or.inr ⟨h1, h2, h4 s' hm, fun q hq => h4 q (List.mem_of_mem_take hq), h5⟩, ok.2⟩
theorem c_undo (ok : okW p M s hs im sc) : bOK 116 240 [] (t, p, M, s, hs, im, sc, rf) := by
  cases hl : hs.getLast? with
  | none =>
    have e : hs = [] := List.getLast?_eq_none_iff.mp hl
    refine ⟨-1, (t, p, M, s, hs, im, sc, rf), ok, fun d g I J Q h k => ?_, fun d g I J Q hsh h k => ?_⟩
    · have h : kI g I t p M s hs im sc rf := h
      obtain ⟨nx, hH⟩ := h.2.2.2.2.2.2.1
      exact w116 h.1.1 (k_restore h.1 hH ok.bd.2.1 (fun _ => ⟨_, rfl, k g I J h (kFr.refl g I)⟩) (fun s1 h1 => by rw [hl] at h1; cases h1))
    · have h : rI I t p M s hs im sc rf := h
      obtain ⟨fs, hH⟩ := h.2.2.2.1
      refine r_undo hsh hH ok.bd.2.1 (fun _ I1 f1 f2 => k I1 J (h.keep ok ?_) (fun b hb => f1 b (by omega))) (fun s1 h1 => by rw [hl] at h1; cases h1)
      exact ⟨fun b b1 _ _ _ _ _ _ _ _ => f1 b b1, fun f hf => f2 f (by omega), fun j _ => ⟨by rw [f1 107 (by omega)], by rw [f1 108 (by omega)]⟩, fun j _ => by rw [f1 109 (by omega)], fun j _ => by rw [f1 110 (by omega)]⟩
  | some s1 =>
    have hne : hs ≠ [] := fun e => by rw [e] at hl; cases hl
    refine ⟨nI (hs.length - 1), (t, p, M, s1, popH hs, im, sc, rf), ok.pop hl, fun d g I J Q h k => ?_, fun d g I J Q hsh h k => ?_⟩
    · have h : kI g I t p M s hs im sc rf := h
      obtain ⟨nx, hH⟩ := h.2.2.2.2.2.2.1
      refine w116 h.1.1 (k_restore h.1 hH ok.bd.2.1 (fun e => absurd e hne) (fun s2 h2 I1 nx1 S1 H1 f1 => ⟨_, rfl, ?_⟩))
      rw [hl] at h2
      cases h2
      exact k g I1 J (h.hist f1 S1 ⟨nx1, H1⟩) (kFr.same (fun b hb => f1 b (by omega) (by omega)))
    · have h : rI I t p M s hs im sc rf := h
      obtain ⟨fs, hH⟩ := h.2.2.2.1
      refine r_undo hsh hH ok.bd.2.1 (fun e => absurd e hne) (fun s2 h2 I1 S1 H1 f1 f2 => ?_)
      rw [hl] at h2
      cases h2
      exact k I1 J (h.hist f1 f2 S1 ⟨fs, H1⟩) (fun b hb => f1 b (by omega) (by omega))
theorem c_image (ok : okW p M s hs im sc) : bOK 129 242 [] (t, p, M, s, hs, im, sc, rf) := by
  by_cases hp : p = 0
  · refine ⟨-1, (t, p, M, s, hs, im, sc, rf), ok, fun d g I J Q h k => ?_, fun d g I J Q hsh h k => ?_⟩
    · have h : kI g I t p M s hs im sc rf := h
      exact w129 h.1.1 (h.2.2.2.2.1.tt (fun _ => k g I J h (kFr.refl g I)) (fun h0 => absurd hp h0))
    · have h : rI I t p M s hs im sc rf := h
      have h2 := h.keep ok rKp.th
      exact w242 hsh (h2.2.1.tt ok.p_lt (fun _ => k _ J h2 rKp.th.fr) (fun h0 => absurd hp h0))
  · have hR := ok.ring hp
    refine ⟨nI (cntF (fullB s.1) 8), (t, p, M, s, hs, some s, sc, rf), okW.mk hR.1 hR.2.1 hR.2.2.1 hR.2.2.2.1 (fun q hq => by cases hq; exact hR.2.2.1) ok.2, fun d g I J Q h k => ?_, fun d g I J Q hsh h k => ?_⟩
    · have h : kI g I t p M s hs im sc rf := h
      obtain ⟨hg, hrc, h80, hT, hRg, hS, ⟨nx, hH⟩, hM, hC, hf⟩ := h
      have s89 := hg.1.sta (a := 89) rfl (by omega)
      refine w129 hg.1 (hRg.tt (fun h0 => absurd h0 hp) (fun _ => k_copySt (hg.1.sta rfl (by omega)) s89 (by omega) hS ok.bd.1.1 ok.bd.1.2 (fun I1 S1 f1 => ⟨rfl, ?_⟩)))
      have f : ∀ b, b ≠ 4 → (b < 97 ∨ 100 < b) → qw I1 4 15 (nI 1) b = I b := fun b b1 b2 => by rw [zu_a b1, f1 b (by omega)]
      have f4 : ∀ j, j ≠ 15 → qw I1 4 15 (nI 1) 4 j = I 4 j := fun j hj => by rw [zu_k hj, f1 4 (by omega)]
      have S2 : kSt (qw I1 4 15 (nI 1)) 89 s := hS.keep (fun b b1 b2 => f b (by omega) (by omega))
      refine k_fill8 s89 S2.1 ok.bd.1.1 ⟨_, rfl, k g _ J ?_ (kFr.same (fun b hb => f b (by omega) (by omega)))⟩
      exact ⟨hg, hrc, by rw [f 8 (by omega) (by omega)]; exact h80, hT.keep (f 5 (by omega) (by omega)) (f 6 (by omega) (by omega)), hRg.keep (f4 14 (by omega)) (f 12 (by omega) (by omega)), S2, ⟨nx, hH.keepE hg (fun _ => rfl) (f 101 (by omega) (by omega)) (fun b hb => f b (by omega) (by omega))⟩, ⟨zu_s, S1.keep (fun b b1 b2 => zu_a (by omega))⟩, hC.keepE (fun _ => rfl) (Nat.le_refl _) (fun x n _ _ h3 => h3) (f4 13 (by omega)) (fun x n h1 h2 h3 b b1 b2 => f b (by omega) (by omega)), fun i hi => by rw [f 104 (by omega) (by omega)]; exact hf i hi⟩
    · have h : rI I t p M s hs im sc rf := h
      have h2 := h.keep ok rKp.th
      obtain ⟨hT, hRg, hS, ⟨fs, hH⟩, hM, hC, hf⟩ := h2
      refine w242 hsh (hRg.tt ok.p_lt (fun h0 => absurd h0 hp) (fun _ => r_cpRow (hsh.k rfl) (hsh.k rfl) (by omega) (by omega) (by omega) rfl rfl (fun I1 c1 c2 c3 => ⟨rfl, ?_⟩)))
      have f : ∀ b, b ≠ 105 → b ≠ 113 → qw I1 105 23 (nI 1) b = I b := fun b b1 b2 => by rw [zu_a b1, c1 b b2, zu_a b1]
      have f5 : ∀ j, j ≠ 23 → qw I1 105 23 (nI 1) 105 j = qw I 105 0 (nI 0) 105 j := fun j hj => by rw [zu_k hj, c1 105 (by omega)]
      have fz : ∀ b, b ≠ 105 → b ≠ 113 → qw I1 105 23 (nI 1) b = qw I 105 0 (nI 0) b := fun b b1 b2 => by rw [zu_a b1, c1 b b2]
      have S2 : rSt (qw I1 105 23 (nI 1)) 111 0 s := hS.keep (fz 111 (by omega) (by omega))
      refine r_many hsh S2.1 ok.bd.1.1 ⟨_, rfl, k _ J ?_ (fun b hb => f b (by omega) (by omega))⟩
      have S3 : rSt I1 113 0 s := hS.move ok.bd.1 (fun j hj => by rw [c2 j hj])
      exact ⟨hT.keep (f5 2 (by omega)) (fz 106 (by omega) (by omega)), ⟨by rw [f5 7 (by omega)]; exact hRg.1, fun hp => by rw [f5 8 (by omega)]; exact hRg.2 hp⟩, S2, ⟨fs, hH.keep (f5 21 (by omega)) (f5 22 (by omega)) (fz 114 (by omega) (by omega))⟩, ⟨zu_s, S3.keep (zu_a (by omega))⟩, ⟨by rw [f5 13 (by omega)]; exact hC.1, fun j ss hj => ⟨by rw [fz 110 (by omega) (by omega)]; exact (hC.2 j ss hj).1, fun i q hi => ⟨by rw [fz 107 (by omega) (by omega)]; exact ((hC.2 j ss hj).2 i q hi).1, ((hC.2 j ss hj).2 i q hi).2.keepS (by rw [fz 108 (by omega) (by omega)]) (fun i _ _ => by rw [fz 109 (by omega) (by omega)])⟩⟩⟩, fun i hi => by rw [fz 116 (by omega) (by omega)]; exact hf i hi⟩
theorem c_back (ok : okW p M s hs im sc) : bOK 130 243 [] (t, p, M, s, hs, im, sc, rf) := by
  cases im with
  | none =>
    refine ⟨-1, (t, p, M, s, hs, none, sc, rf), ok, fun d g I J Q h k => ?_, fun d g I J Q hsh h k => ?_⟩
    · have h : kI g I t p M s hs none sc rf := h
      have hM : I 4 15 = nI 0 := h.2.2.2.2.2.2.2.1
      refine w130 h.1.1 ?_
      rw [hM]
      exact br0 (k g I J h (kFr.refl g I))
    · have h : rI I t p M s hs none sc rf := h
      have h2 := h.keep ok rKp.th
      have hM : qw I 105 0 (nI 0) 105 23 = nI 0 := h2.2.2.2.2.1
      refine w243 hsh ?_
      rw [hM]
      exact br0 (k _ J h2 rKp.th.fr)
  | some s1 =>
    have hp : p ≠ 0 := fun h0 => by have := (ok.no h0).2.2; cases this
    have hR := ok.ring hp
    have ok1 := hR.2.2.2.2 s1 rfl
    refine ⟨nI (cntF (fullB s1.1) 8), (t, p, M, s1, [], some s1, sc, rf), okW.mk hR.1 hR.2.1 ok1 (fun q hq => by cases hq) (fun q hq => by cases hq; exact ok1) ok.2, fun d g I J Q h k => ?_, fun d g I J Q hsh h k => ?_⟩
    · have h : kI g I t p M s hs (some s1) sc rf := h
      have hM : I 4 15 = nI 1 ∧ kSt I 97 s1 := h.2.2.2.2.2.2.2.1
      obtain ⟨nx, hH⟩ := h.2.2.2.2.2.2.1
      have hg := h.1
      have s89 := hg.1.sta (a := 89) rfl (by omega)
      refine w130 hg.1 ?_
      rw [hM.1]
      refine br1 (k_copySt s89 (hg.1.sta rfl (by omega)) (by omega) hM.2 ok1.bd.1 ok1.bd.2 (fun I1 S1 f1 => ⟨rfl, w38 hg.1 ⟨rfl, ?_⟩⟩))
      have S2 : kSt (qw I1 101 2 (nI 0)) 89 s1 := S1.keep (fun b b1 b2 => zu_a (by omega))
      have f : ∀ b, b ≠ 101 → (b < 89 ∨ 92 < b) → qw I1 101 2 (nI 0) b = I b := fun b b1 b2 => by rw [zu_a b1, f1 b b2]
      refine k_fill8 s89 S2.1 ok1.bd.1 ⟨_, rfl, k g _ J (h.hist f S2 ⟨nx, ?_⟩) (kFr.same (fun b hb => f b (by omega) (by omega)))⟩
      exact ⟨by rw [zu_k (by omega), f1 101 (by omega)]; exact hH.1, hH.2.1, zu_s, Nat.zero_le _, fun j q hj => by cases hj⟩
    · have h : rI I t p M s hs (some s1) sc rf := h
      have h2 := h.keep ok rKp.th
      have hM : qw I 105 0 (nI 0) 105 23 = nI 1 ∧ rSt (qw I 105 0 (nI 0)) 113 0 s1 := h2.2.2.2.2.1
      obtain ⟨fs, hH⟩ := h2.2.2.2.1
      refine w243 hsh ?_
      rw [hM.1]
      refine br1 (r_cpRow (hsh.k rfl) (hsh.k rfl) (by omega) (by omega) (by omega) rfl rfl (fun I1 c1 c2 c3 => ⟨rfl, ?_⟩))
      have S1 : rSt I1 111 0 s1 := hM.2.move ok1.bd (fun j hj => by rw [c2 j hj])
      have S2 : rSt (qw I1 105 22 (nI 0)) 111 0 s1 := S1.keep (zu_a (by omega))
      have f : ∀ b, b ≠ 105 → b ≠ 111 → qw I1 105 22 (nI 0) b = qw I 105 0 (nI 0) b := fun b b1 b2 => by rw [zu_a b1, c1 b b2]
      refine r_many hsh S2.1 ok1.bd.1 ⟨_, rfl, k _ J (h2.hist f (fun q q1 q2 => by rw [zu_k q2, c1 105 (by omega)]) S2 ⟨fs, ?_⟩) (fun b hb => by rw [f b (by omega) (by omega), zu_a (by omega)])⟩
      exact ⟨by rw [zu_k (by omega), c1 105 (by omega)]; exact hH.1, hH.2.1, zu_s, Nat.zero_le _, fun j q hj => by cases hj⟩
end UNDOS
