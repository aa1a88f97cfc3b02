/-! RECURRENCES: the class -/
def kRc (g : qG) (bb bs : Nat) : Prop := g.2.1 83 0 = some 84 ∧ g.2.1 83 1 = some bb ∧ g.2.1 83 2 = some bs ∧ g.1 84 = some (100, 25) ∧ g.1 bb = some (100, 25) ∧ g.1 bs = some (100, 25) ∧ ((bb = 85 ∧ bs = 86) ∨ (bb = 86 ∧ bs = 85))
def kAr (I : qI) (a : Nat) (C : Nat → Int) : Prop := ∀ i, i < 25 → I a i = iI (C i)
section KFIND
variable {d : Nat} {g : qG} {I : qI} {J : qJ} {Q : qQ} {p M n x bb bs : Nat} {c C : Nat → Int}
theorem k_missed_l (hs : qSh g) (hx : qSer g x) (hg : kRc g bb bs) (hS : kS I x n c) (hn : n ≤ 24) (hC : kAr I 84 C) {N L : Nat} (hN : N < n) (hL : L ≤ N) (k : Q (some (.int (iI (dsc c C L N)))) g I J) : ∀ f i : Nat, i + f = L + 1 → qev d 70 (6, [.ref 83, .ref x, .int (nI N), .int (nI L), .int (iI (sm (fun i => C i * c (N - i)) i)), .int (nI i)], [], g, I, J) Q
  | 0, i, hi => by
    refine w70_6 hs hx (brT (by rw [nI_ltI (by omega) (by omega)]; omega) ?_)
    rw [show i = L + 1 by omega]
    exact k
  | f + 1, i, hi => by
    refine w70_6 hs hx (brN (by rw [nI_ltI (by omega) (by omega)]; omega) (brN (by rw [nI_ltI (by omega) (by omega)]; omega) ⟨84, hg.1, hg.2.2.2.1, i, rfl, by omega, N - i, pk_sub (by omega), by omega, ?_⟩))
    rw [hC i (by omega), hS.2 (N - i) (by omega), iI_mul, iI_add, nI_add]
    exact k_missed_l hs hx hg hS hn hC hN hL k f (i + 1) (by omega)
theorem k_missed (hs : qSh g) (hx : qSer g x) (hg : kRc g bb bs) (hS : kS I x n c) (hn : n ≤ 24) (hC : kAr I 84 C) {N L : Nat} (hN : N < n) (hL : L ≤ N) (k : Q (some (.int (iI (dsc c C L N)))) g I J) : qC d 70 [.ref 83, .ref x, .int (nI N), .int (nI L)] g I J Q := by
  have h := k_missed_l (d := d) hs hx hg hS hn hC hN hL k (L + 1) 0 (by omega)
  rw [show iI (sm (fun i => C i * c (N - i)) 0) = nI 0 from (nI_iI 0).symm] at h
  exact w70 hx h
theorem k_factor (hs : qSh g) (hg : kRc g bb bs) (hC : kAr I 84 C) (hr : ∀ i, 0 ≤ C i ∧ C i < p) (hp : p < 998) {i : Nat} (hi : 1 ≤ i ∧ i ≤ 24) {v : Int32} (hv : v = iI p) (k : Q (some (.int (iI ((- C i) % p)))) g I J) : qC d 71 [.ref 83, .int (nI i), .int v] g I J Q := by
  subst hv
  have b := hr i
  refine w71 hs (brN (by rw [nI_ltI (by omega) (by omega)]; omega) (brN (by rw [nI_leI (by omega) (by omega)]; omega) ⟨84, hg.1, hg.2.2.2.1, i, rfl, by omega, ?_⟩))
  rw [hC i (by omega), iI_z0, iI_eq (by omega) (by omega)]
  by_cases h0 : C i = 0
  · refine brT h0 ?_
    rw [h0] at k
    rw [nI_iI]
    simpa using k
  · refine brN h0 ⟨84, hg.1, hg.2.2.2.1, i, rfl, by omega, ?_⟩
    rw [hC i (by omega), iI_sub]
    have e : (- C i) % p = p - C i := by
      rw [show - C i = (p - C i) + p * (-1) by omega, Int.add_mul_emod_self_left, Int.emod_eq_of_lt (by omega) (by omega)]
    rw [e] at k
    exact k
/-- the inner loop: now gets its new row -/
theorem k_upd_l (hs : qSh g) (hg : kRc g bb bs) (hp : 2 ≤ p ∧ p < 998) {B : Nat → Int} (hB : kAr I bb B) (hCr : ∀ i, 0 ≤ C i ∧ C i < p) (hBr : ∀ i, 0 ≤ B i ∧ B i < p) {f : Int} (hf : 0 ≤ f ∧ f < p) {m : Nat} (hm : 1 ≤ m ∧ m < 100) {x1 : Nat} {v4 v6 v7 v8 v10 : Int32} (k : ∀ I' i, (∀ b, b ≠ 84 → I' b = I b) → kAr I' 84 (bmC p C B f m) → qev d 69 (178, [.ref 83, .ref x1, .ref 12, .int (iI p), .int v4, .int (nI m), .int v6, .int v7, .int v8, .int (iI f), .int v10, .int i], [], g, I', J) Q) : ∀ (r i : Nat) (I' : qI), i + r = max 25 m → m ≤ i → (∀ b, b ≠ 84 → I' b = I b) → kAr I' 84 (fun q => if q < i then bmC p C B f m q else C q) → qev d 69 (133, [.ref 83, .ref x1, .ref 12, .int (iI p), .int v4, .int (nI m), .int v6, .int v7, .int v8, .int (iI f), .int v10, .int (nI i)], [], g, I', J) Q
  | 0, i, I', hr, hmi, hF, hA => by
    refine e_next (pc' := 135) rfl rfl ?_
    refine e_bipush (pc' := 137) rfl rfl kb_25 ?_
    refine e_icmp (nI 25 ≤ nI i) (pc' := 140) rfl rfl e_d (fun hc => ?_) (fun hc => ?_)
    · refine k I' (nI i) hF (fun q hq => ?_)
      rw [hA q hq]; dsimp only; rw [if_pos (by omega)]
    · rw [nI_leI (by omega) (by omega)] at hc; omega
  | r + 1, i, I', hr, hmi, hF, hA => by
    have hne : ¬ iI (p : Int) = 0 := by rw [iI_z0, iI_eq (by omega) (by omega)]; omega
    refine e_next (pc' := 135) rfl rfl ?_
    refine e_bipush (pc' := 137) rfl rfl kb_25 ?_
    refine e_icmp (nI 25 ≤ nI i) (pc' := 140) rfl rfl e_d (fun hc => ?_) (fun hc => ?_)
    · rw [nI_leI (by omega) (by omega)] at hc
      refine k I' (nI i) hF (fun q hq => ?_)
      rw [hA q hq]; dsimp only; rw [if_pos (by omega)]
    · rw [nI_leI (by omega) (by omega)] at hc
      refine e_next (pc' := 141) rfl rfl ?_
      refine e_getR (pc' := 144) rfl rfl (hs.o rfl) hg.1 ?_
      refine e_next (pc' := 146) rfl rfl ?_
      refine e_next (pc' := 147) rfl rfl ?_
      refine e_getR (pc' := 150) rfl rfl (hs.o rfl) hg.1 ?_
      refine e_next (pc' := 152) rfl rfl ?_
      refine e_iald i (pc' := 153) rfl rfl hg.2.2.2.1 rfl (by omega) (by decide) ?_
      refine e_next (pc' := 154) rfl rfl ?_
      refine e_next (pc' := 156) rfl rfl ?_
      refine e_next (pc' := 157) rfl rfl ?_
      refine e_next (pc' := 158) rfl rfl ?_
      refine e_getR (pc' := 161) rfl rfl (hs.o rfl) hg.2.1 ?_
      refine e_next (pc' := 163) rfl rfl ?_
      refine e_next (pc' := 165) rfl rfl ?_
      refine e_next (pc' := 166) rfl rfl ?_
      refine e_iald (i - m) (pc' := 167) rfl rfl hg.2.2.2.2.1 (pk_sub hmi) (by omega) (by decide) ?_
      refine e_next (pc' := 168) rfl rfl ?_
      refine e_next (pc' := 169) rfl rfl ?_
      refine e_next (pc' := 170) rfl rfl ?_
      refine e_irem (pc' := 171) rfl rfl hne ?_
      refine e_iast i (pc' := 172) rfl rfl hg.2.2.2.1 rfl (by omega) (by decide) ?_
      refine e_iinc (pc' := 175) (ls' := [_, _, _, _, _, _, _, _, _, _, _, _]) (v := (nI 1)) rfl rfl kc_1 rfl rfl ?_
      refine e_next (pc' := 133) rfl rfl ?_
      have hbb : bb ≠ 84 := by have := hg.2.2.2.2.2.2; omega
      have b1 := hCr i
      have b2 := hBr (i - m)
      have b3 : 0 ≤ (p - f) * B (i - m) ∧ (p - f) * B (i - m) ≤ 997 * 997 := ⟨Int.mul_nonneg (by omega) b2.1, Int.mul_le_mul (by omega) (by omega) b2.1 (by omega)⟩
      have e1 : I' 84 i = iI (C i) := by rw [hA i (by omega)]; dsimp only; rw [if_neg (by omega)]
      have e2 : I' bb (i - m) = iI (B (i - m)) := by rw [hF bb hbb]; exact hB (i - m) (by omega)
      have e3 : (I' 84 i + (iI p - iI f) * I' bb (i - m)) - (I' 84 i + (iI p - iI f) * I' bb (i - m)) / iI p * iI p = iI (bmC p C B f m i) := by
        rw [e1, e2, iI_sub, iI_mul, iI_add]
        have := iI_rem (a := C i + (p - f) * B (i - m)) (p := p) (by omega) (by omega)
        unfold bmC
        rw [if_neg (by omega)]
        exact this
      rw [e3, nI_add]
      refine k_upd_l hs hg hp hB hCr hBr hf hm k r (i + 1) _ (by omega) (by omega) (fun b hb => by rw [zu_a hb]; exact hF b hb) (fun q hq => ?_)
      dsimp only
      by_cases e : q = i
      · rw [e, zu_s, if_pos (by omega)]
      · rw [zu_k e, hA q hq]
        dsimp only
        by_cases h1 : q < i
        · rw [if_pos h1, if_pos (by omega)]
        · rw [if_neg h1, if_neg (by omega)]
end KFIND
