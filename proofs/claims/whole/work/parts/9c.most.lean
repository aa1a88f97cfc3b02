/-! call: most -/
def zfB (regs : Nat → Sr) (r : Nat) : Bool := fullB regs r && decide ((regs r).2 0 = 0)
def bsF (μ : Nat → Nat) (P : Nat → Bool) : Nat → Int
  | 0 => -1
  | k + 1 => if P k = true then (if bsF μ P k = -1 ∨ μ (bsF μ P k).toNat < μ k then (k : Int) else bsF μ P k) else bsF μ P k
theorem bsF_bd (μ : Nat → Nat) (P : Nat → Bool) : ∀ k, -1 ≤ bsF μ P k ∧ bsF μ P k < k
  | 0 => ⟨Int.le_refl _, show (-1 : Int) < ((0 : Nat) : Int) by decide⟩
  | k + 1 => by
    have := bsF_bd μ P k
    unfold bsF
    split
    · split <;> omega
    · omega
def tot (f : Nat → Nat) : Nat → Nat
  | 0 => 0
  | k + 1 => tot f k + f k
def cz (c : Nat → Int) : Nat → Nat
  | 0 => 0
  | i + 1 => cz c i + (if c i = 0 then 0 else 1)
theorem cz_le (c : Nat → Int) : ∀ i, cz c i ≤ i
  | 0 => Nat.le_refl _
  | i + 1 => by
    have := cz_le c i
    unfold cz
    split <;> omega
def mxF (c : Nat → Int) (a : Int) : Nat → Int
  | 0 => a
  | i + 1 => max (mxF c a i) (c i)
def mxT (regs : Nat → Sr) : Nat → Int
  | 0 => 0
  | k + 1 => mxF (regs k).2 (mxT regs k) (regs k).1
section MOSTS
variable {d : Nat} {g : qG} {I I' : qI} {J : qJ} {Q : qQ} {t : List Nat} {p M n : Nat} {s s' : ST} {hs hs' : List ST} {im im' : Option ST} {sc : SC} {rf : RF} {x x1 x2 x3 : Int32} {regs : Nat → Sr} {a r q : Nat} {c : Nat → Int}
theorem mxF_bd (ho : ∀ i, 0 ≤ c i ∧ c i < p) {a : Int} (ha : 0 ≤ a ∧ a ≤ p) : ∀ i, 0 ≤ mxF c a i ∧ mxF c a i ≤ p
  | 0 => ha
  | i + 1 => by
    have := mxF_bd ho ha i
    have := ho i
    unfold mxF
    omega
theorem mxT_bd (hok : okG p M regs) : ∀ k, k ≤ 8 → 0 ≤ mxT regs k ∧ mxT regs k ≤ p
  | 0, _ => ⟨Int.le_refl _, Int.natCast_nonneg p⟩
  | k + 1, hk => mxF_bd (hok k (by omega)).2.2.1 (mxT_bd hok k (by omega)) _
theorem r_those_l (hsh : qSh g) (ok : okW p M s hs im sc) (hp : p ≠ 0) (h : rI I t p M s hs im sc rf) (fl : Bool) (k : Q (some (.int (nI (bitsF (if fl = true then zfB s.1 else fullB s.1) 8)))) g I J) : ∀ f i, i + f = 8 → qev (d + 3) 264 (4, [.ref 105, .int (nI (bI fl)), .int (nI (bitsF (if fl = true then zfB s.1 else fullB s.1) i)), .int (nI i)], [], g, I, J) Q
  | 0, i, hi => by
    have e : i = 8 := by omega
    subst e
    exact w264_4 hsh (brT (by rw [nI_leI (by omega) (by omega)]; omega) k)
  | f + 1, i, hi => by
    have ih := r_those_l hsh ok hp h fl k f (i + 1) (by omega)
    have hB := bitsF_lt (if fl = true then zfB s.1 else fullB s.1) i
    have hB2 : bitsF (if fl = true then zfB s.1 else fullB s.1) i < 256 := Nat.lt_of_lt_of_le hB (show 2 ^ i ≤ 2 ^ 8 from Nat.pow_le_pow_right (by decide) (by omega))
    have ho := ((ok.ring hp).2.2.1.1 i (by omega)).2
    have hp9 := ok.p_lt
    refine w264_4 hsh (brN (by rw [nI_leI (by omega) (by omega)]; omega) (r_heldI hsh ok h (fun h1 => ⟨_, rfl, br1 ?_⟩) (fun h1 => ⟨_, rfl, br0 ?_⟩)))
    · rw [lnr_at (by omega)] at h1
      have hf : fullB s.1 i = true := fullB_iff.mpr h1
      rw [nI_add, orb (by omega) hB, or0 hB2]
      cases fl with
      | false =>
        refine br0 ?_
        rw [bitsF, if_pos (show (if false = true then zfB s.1 else fullB s.1) i = true from hf)] at ih
        exact ih
      | true =>
        have hG := (h.2.2.1.1 i (by omega)).2 0 (by omega)
        rw [Nat.zero_add, Nat.add_zero] at hG
        have b0 := ho.2.1 0
        refine br1 ⟨25 * i + 1, by rw [pk_mul, nI_add], by omega, ?_⟩
        rw [hG, iI_z0, iI_eq (by omega) (by omega)]
        by_cases h0 : (s.1 i).2 0 = 0
        · refine brT h0 ?_
          rw [bitsF, if_pos (show (if true = true then zfB s.1 else fullB s.1) i = true by show (fullB s.1 i && decide _) = true; rw [hf, decide_eq_true h0]; rfl)] at ih
          exact ih
        · refine brN h0 ?_
          rw [bitsF, if_neg (show ¬ (if true = true then zfB s.1 else fullB s.1) i = true by show ¬ (fullB s.1 i && decide _) = true; rw [hf, decide_eq_false h0]; decide)] at ih
          exact ih
    · rw [lnr_at (by omega)] at h1
      have hf : fullB s.1 i = false := by
        cases e : fullB s.1 i with
        | false => rfl
        | true => exact absurd h1 (fullB_iff.mp e)
      rw [nI_add, or0 hB2]
      have hn : ¬ (if fl = true then zfB s.1 else fullB s.1) i = true := by
        cases fl with
        | false => show ¬ fullB s.1 i = true; rw [hf]; decide
        | true => show ¬ (fullB s.1 i && decide _) = true; rw [hf, Bool.false_and]; decide
      rw [bitsF, if_neg hn] at ih
      exact ih
theorem k_zf_l (ha : qSta g a) (hG : kG I a regs) (hok : okG p M regs) (hp : p < 998) (k : Q (some (.int (nI (bitsF (zfB regs) 8)))) g I J) : ∀ f i, i + f = 8 → qev (d + 1) 95 (4, [.ref a, .int (nI (bitsF (zfB regs) i)), .int (nI i)], [], g, I, J) Q
  | 0, i, hi => by
    have e : i = 8 := by omega
    subst e
    exact w95_4 ha (brT (by rw [nI_leI (by omega) (by omega)]; omega) k)
  | f + 1, i, hi => by
    have ho := (hok i (by omega)).2
    have hbi := ho.1
    have b0 := ho.2.1 0
    have ih := k_zf_l ha hG hok hp k f (i + 1) (by omega)
    refine w95_4 ha (brN (by rw [nI_leI (by omega) (by omega)]; omega) ⟨i, rfl, by omega, ?_⟩)
    rw [(hG i (by omega)).1, ← nI_0, nI_leI (by omega) (by omega), nI_add, orb (by omega) (bitsF_lt _ i)]
    by_cases h0 : (regs i).1 ≤ 0
    · refine brT h0 ?_
      have hf : ¬ zfB regs i = true := fun e => by
        have := (Bool.and_eq_true _ _ ▸ e : fullB regs i = true ∧ _).1
        exact fullB_iff.mp this (by omega)
      rw [bitsF, if_neg hf] at ih
      exact ih
    · refine brN h0 (k_cell ha hG (by omega) (i := 0) (by omega) (by omega) rfl rfl ⟨_, rfl, ?_⟩)
      have hf : fullB regs i = true := fullB_iff.mpr (by omega)
      rw [nI_0, iI_z0, iI_eq (by omega) (by omega)]
      by_cases h1 : (regs i).2 0 = 0
      · refine brT h1 ?_
        rw [bitsF, if_pos (show zfB regs i = true by unfold zfB; rw [hf, decide_eq_true h1]; rfl)] at ih
        exact ih
      · refine brN h1 ?_
        rw [bitsF, if_neg (show ¬ zfB regs i = true by unfold zfB; rw [hf, decide_eq_false h1]; decide)] at ih
        exact ih
theorem k_long_l (ha : qSta g a) (hG : kG I a regs) (hb : ∀ r, r < 8 → (regs r).1 ≤ 24) (k : Q (some (.int (iI (bsF (fun r => (regs r).1) (fullB regs) 8)))) g I J) : ∀ f i, i + f = 8 → qev d 90 (4, [.ref a, .int (iI (bsF (fun r => (regs r).1) (fullB regs) i)), .int (nI i)], [], g, I, J) Q
  | 0, i, hi => by
    have e : i = 8 := by omega
    subst e
    exact w90_4 ha (brT (by rw [nI_leI (by omega) (by omega)]; omega) k)
  | f + 1, i, hi => by
    have hbi := hb i (by omega)
    have hB := bsF_bd (fun r => (regs r).1) (fullB regs) i
    have ih := k_long_l ha hG hb k f (i + 1) (by omega)
    refine w90_4 ha (brN (by rw [nI_leI (by omega) (by omega)]; omega) ⟨i, rfl, by omega, ?_⟩)
    rw [(hG i (by omega)).1, ← nI_0, nI_leI (by omega) (by omega), nI_add]
    by_cases h0 : (regs i).1 ≤ 0
    · refine brT h0 ?_
      rw [bsF, if_neg (fun e => fullB_iff.mp e (by omega))] at ih
      exact ih
    · rw [bsF, if_pos (fullB_iff.mpr (by omega))] at ih
      refine brN h0 ?_
      generalize bsF (fun r => (regs r).1) (fullB regs) i = B at *
      rw [iI_zm1, iI_eq (by omega) (by omega)]
      by_cases h1 : B = -1
      · rw [if_pos (Or.inl h1)] at ih
        refine brT h1 ?_
        rw [nI_iI i]
        exact ih
      · have hB8 := hb B.toNat (by omega)
        refine brN h1 ⟨i, rfl, by omega, B.toNat, by rw [nI_iI]; congr 1; omega, by omega, ?_⟩
        rw [(hG i (by omega)).1, (hG B.toNat (by omega)).1, nI_leI (by omega) (by omega)]
        by_cases h2 : (regs i).1 ≤ (regs B.toNat).1
        · rw [if_neg (fun h => h.elim h1 (fun h => by have h : (regs B.toNat).1 < (regs i).1 := h; omega))] at ih
          exact brT h2 ih
        · rw [if_pos (Or.inr (by show (regs B.toNat).1 < (regs i).1; omega))] at ih
          refine brN h2 ?_
          rw [nI_iI i]
          exact ih
def dpt (regs : Nat → Sr) (r : Nat) : Nat := od (regs r).1 (regs r).2
def mB (μ : Nat → Nat) (B : Int) : Int := if B = -1 then -1 else μ B.toNat
theorem k_deep_l (ha : qSta g a) (hG : kG I a regs) (hok : okG p M regs) (hp : p < 998) (k : Q (some (.int (iI (bsF (dpt regs) (fullB regs) 8)))) g I J) : ∀ f i, i + f = 8 → qev (d + 2) 91 (6, [.ref a, .int (iI (bsF (dpt regs) (fullB regs) i)), .int (iI (mB (dpt regs) (bsF (dpt regs) (fullB regs) i))), .int (nI i)], [], g, I, J) Q
  | 0, i, hi => by
    have e : i = 8 := by omega
    subst e
    exact w91_6 ha (brT (by rw [nI_leI (by omega) (by omega)]; omega) k)
  | f + 1, i, hi => by
    have ho := (hok i (by omega)).2
    have hbi := ho.1
    have hB := bsF_bd (dpt regs) (fullB regs) i
    have ih := k_deep_l ha hG hok hp k f (i + 1) (by omega)
    refine w91_6 ha (brN (by rw [nI_leI (by omega) (by omega)]; omega) ⟨i, rfl, by omega, ?_⟩)
    rw [(hG i (by omega)).1, ← nI_0, nI_leI (by omega) (by omega), nI_add]
    by_cases h0 : (regs i).1 ≤ 0
    · refine brT h0 ?_
      rw [bsF, if_neg (fun e => fullB_iff.mp e (by omega))] at ih
      exact ih
    · rw [bsF, if_pos (fullB_iff.mpr (by omega))] at ih
      have hdi : dpt regs i ≤ 24 := Nat.le_trans (od_le _ _) hbi
      refine brN h0 (k_fnz ha hG (by omega) ho hp ⟨_, rfl, ?_⟩)
      generalize bsF (dpt regs) (fullB regs) i = B at *
      have hmb : -1 ≤ mB (dpt regs) B ∧ mB (dpt regs) B ≤ 24 := by
        unfold mB
        split
        · omega
        · have : dpt regs B.toNat ≤ 24 := Nat.le_trans (od_le _ _) (hok B.toNat (by omega)).2.1
          omega
      rw [show od (regs i).1 (regs i).2 = dpt regs i from rfl, nI_iI (dpt regs i), iI_le (by omega) (by omega)]
      by_cases h1 : (dpt regs i : Int) ≤ mB (dpt regs) B
      · refine brT h1 ?_
        have hn : ¬ (B = -1 ∨ dpt regs B.toNat < dpt regs i) := fun h => by
          unfold mB at h1
          rcases h with h | h
          · rw [if_pos h] at h1; omega
          · split at h1 <;> omega
        rw [if_neg hn] at ih
        exact ih
      · refine brN h1 (k_fnz ha hG (by omega) ho hp ⟨_, rfl, ?_⟩)
        have hn : B = -1 ∨ dpt regs B.toNat < dpt regs i := by
          by_cases h : B = -1
          · exact Or.inl h
          · unfold mB at h1
            rw [if_neg h] at h1
            exact Or.inr (by omega)
        rw [if_pos hn] at ih
        have e2 : mB (dpt regs) (i : Int) = (dpt regs i : Int) := by unfold mB; rw [if_neg (by omega)]; rfl
        rw [e2] at ih
        rw [show od (regs i).1 (regs i).2 = dpt regs i from rfl, nI_iI i, nI_iI (dpt regs i)]
        exact ih
theorem r_best_l (hsh : qSh g) (ok : okW p M s hs im sc) (hp : p ≠ 0) {I0 : qI} (fl : Bool) (k : ∀ I', (∀ b, b ≠ 115 → I' b = I0 b) → Q (some (.int (iI (bsF (if fl = true then (fun r => (s.1 r).1) else dpt s.1) (fullB s.1) 8)))) g I' J) : ∀ (f i : Nat) (I : qI) (v : Int) (w5 : Value), i + f = 8 → rI I t p M s hs im sc rf → (∀ b, b ≠ 115 → I b = I0 b) → (bsF (if fl = true then (fun r => (s.1 r).1) else dpt s.1) (fullB s.1) i ≠ -1 → v = ((if fl = true then (fun r => (s.1 r).1) else dpt s.1) (bsF (if fl = true then (fun r => (s.1 r).1) else dpt s.1) (fullB s.1) i).toNat : Nat)) → qev (d + 3) 261 (7, [.ref 105, .int (nI (bI fl)), .int (iI (bsF (if fl = true then (fun r => (s.1 r).1) else dpt s.1) (fullB s.1) i)), .int (iI v), .int (nI i), w5], [], g, I, J) Q
  | 0, i, I, v, w5, hi, h, f0, hv => by
    have e : i = 8 := by omega
    subst e
    exact w261_7 hsh (brT (by rw [nI_leI (by omega) (by omega)]; omega) (k I f0))
  | f + 1, i, I, v, w5, hi, h, f0, hv => by
    have ho := ((ok.ring hp).2.2.1.1 i (by omega)).2
    have hbi := ho.1
    have hB := bsF_bd (if fl = true then (fun r => (s.1 r).1) else dpt s.1) (fullB s.1) i
    have ih := r_best_l hsh ok hp fl k f (i + 1)
    refine w261_7 hsh (brN (by rw [nI_leI (by omega) (by omega)]; omega) (r_heldI hsh ok h (fun h1 => ⟨_, rfl, br1 ?_⟩) (fun h1 => ⟨_, rfl, br0 ?_⟩)))
    · rw [lnr_at (by omega)] at h1
      refine r_take hsh h.2.2.1.1 (by omega) (by omega) hbi (fun I1 f1 f2 s1 => ⟨rfl, ?_⟩)
      have h3 := h.keep ok (rKp.s115 f1)
      have f4 : ∀ b, b ≠ 115 → I1 b = I0 b := fun b hb => by rw [f1 b hb, f0 b hb]
      -- what either measure brings
      have fin : ∀ m : Nat, m ≤ 24 → m = (if fl = true then (fun r => (s.1 r).1) else dpt s.1) i → ((iI (bsF (if fl = true then (fun r => (s.1 r).1) else dpt s.1) (fullB s.1) i) = (-1) → qev (d + 3) 261 (7, [.ref 105, .int (nI (bI fl)), .int (nI i), .int (nI m), .int (nI i + nI 1), .int (nI m)], [], g, I1, J) Q) ∧ (¬ iI (bsF (if fl = true then (fun r => (s.1 r).1) else dpt s.1) (fullB s.1) i) = (-1) → ((iI v < nI m → qev (d + 3) 261 (7, [.ref 105, .int (nI (bI fl)), .int (nI i), .int (nI m), .int (nI i + nI 1), .int (nI m)], [], g, I1, J) Q) ∧ (¬ iI v < nI m → qev (d + 3) 261 (7, [.ref 105, .int (nI (bI fl)), .int (iI (bsF (if fl = true then (fun r => (s.1 r).1) else dpt s.1) (fullB s.1) i)), .int (iI v), .int (nI i + nI 1), .int (nI m)], [], g, I1, J) Q)))) := by
        intro m hm em
        have ih2 := fun v' w5 => ih I1 v' w5 (by omega) h3 f4
        rw [bsF, if_pos (fullB_iff.mpr h1)] at ih2
        have hμ : ∀ r, r < 8 → (if fl = true then (fun r => (s.1 r).1) else dpt s.1) r ≤ 24 := fun r hr => by
          have h9 := ((ok.ring hp).2.2.1.1 r hr).2.1
          cases fl with
          | true => exact h9
          | false => exact Nat.le_trans (od_le _ _) h9
        generalize (if fl = true then (fun r => (s.1 r).1) else dpt s.1) = μ at *
        generalize bsF μ (fullB s.1) i = B at *
        rw [iI_zm1, iI_eq (by omega) (by omega), nI_add]
        have e3 : ∀ w5, qev (d + 3) 261 (7, [.ref 105, .int (nI (bI fl)), .int (nI i), .int (nI m), .int (nI (i + 1)), w5], [], g, I1, J) Q ∨ ¬ (B = -1 ∨ μ B.toNat < μ i) := fun w5 => by
          by_cases hc : B = -1 ∨ μ B.toNat < μ i
          · refine Or.inl ?_
            rw [if_pos hc] at ih2
            have := ih2 m w5 (fun _ => by rw [em]; rfl)
            rw [nI_iI i, nI_iI m]
            exact this
          · exact Or.inr hc
        by_cases hb : B = -1
        · refine brT hb ?_
          rcases e3 (.int (nI m)) with h9 | h9
          · exact h9
          · exact absurd (Or.inl hb) h9
        · have hv2 := hv hb
          have hm2 := hμ B.toNat (by omega)
          refine brN hb ?_
          rw [nI_iI m, iI_lt (by omega) (by omega), ← nI_iI m]
          by_cases hlt : v < (m : Int)
          · refine brT hlt ?_
            rcases e3 (.int (nI m)) with h9 | h9
            · exact h9
            · exact absurd (Or.inr (by omega)) h9
          · refine brN hlt ?_
            rw [if_neg (fun h => h.elim hb (fun h => by omega))] at ih2
            exact ih2 v _ (fun _ => hv2)
      cases fl with
      | true => exact br1 (r_len hsh (by omega) s1.1 ⟨_, rfl, fin (s.1 i).1 hbi rfl⟩)
      | false => exact br0 (r_ord hsh (by omega) s1 ho ok.p_lt ⟨_, rfl, fin (dpt s.1 i) (Nat.le_trans (od_le _ _) hbi) rfl⟩)
    · rw [lnr_at (by omega)] at h1
      have ih2 := ih I v w5 (by omega) h f0
      rw [bsF, if_neg (fun e => fullB_iff.mp e h1)] at ih2
      rw [nI_add]
      exact ih2 hv
end MOSTS
