/-! RECURRENCES: what the reference answers -/
section RREC
variable {d : Nat} {g : qG} {I : qI} {J : qJ} {Q : qQ} {p M n : Nat} {c : Nat → Int} {regs : Nat → Sr}
/-- method 214: a RING is there, and a REGISTER is meant -/
theorem r_isReg (hs : qSh g) (hR : rR I p M) {x1 : Int32} (k1 : ∀ r, r < 8 → x1 = nI r → Q (some (.int (nI 1))) g I J) (k0 : (∀ r, r < 8 → x1 ≠ nI r) → Q (some (.int (nI 0))) g I J) : qC (d + 1) 214 [.ref 105, .int x1] g I J Q := by
  have hp := hR.2.2.1.2
  have hp2 := hR.2.2.1.two
  obtain ⟨z, hz, hz1, hz2⟩ := iI_of x1
  subst hz
  refine w214 hs (brN (by rw [hR.1, iI_z0, iI_le (by omega) (by omega)]; omega) (r_isIn (a := z) (b := 0) (c := 7) (by rw [iI_l (by omega)]) (lN_iL 0) (lN_iL 7) (by omega) (by omega) (by omega) (fun h => ⟨_, rfl, br1 (k1 z.toNat (by omega) ?_)⟩) (fun h => ⟨_, rfl, br0 (k0 (fun r hr e => ?_))⟩)))
  · rw [nI_iI]; congr 1; omega
  · rw [nI_iI, iI_eq (by omega) (by omega)] at e; omega
/-- method 215: and it holds a SERIES -/
theorem r_isHeld (hs : qSh g) (hR : rR I p M) (hG : rG I 111 0 regs) (hn : ∀ r, r < 8 → (regs r).1 ≤ 24) {x1 : Int32} (k1 : ∀ r, r < 8 → x1 = nI r → (regs r).1 ≠ 0 → Q (some (.int (nI 1))) g I J) (k0 : (∀ r, r < 8 → x1 = nI r → (regs r).1 = 0) → Q (some (.int (nI 0))) g I J) : qC (d + 2) 215 [.ref 105, .int x1] g I J Q := by
  refine w215 hs (r_isReg hs hR (fun r hr e => ⟨_, rfl, br1 ?_⟩) (fun h => ⟨_, rfl, br0 (k0 (fun r hr e => absurd e (h r hr)))⟩))
  subst e
  have h1 := (hG r hr).1
  have h2 := hn r hr
  rw [show 0 + 25 * r = 25 * r by omega] at h1
  refine ⟨25 * r, by rw [pk_mul], by omega, ?_⟩
  rw [h1, ← nI_0, nI_leI (by omega) (by omega)]
  by_cases h0 : (regs r).1 ≤ 0
  · refine brT h0 (k0 (fun q hq e => ?_))
    rw [nI_eq (by omega) (by omega)] at e
    rw [← e]; omega
  · exact brN h0 (k1 r hr rfl (by omega))
/-- method 225: a REGISTER copied to a row -/
theorem r_take_l (hs : qSh g) {r to : Nat} (hr : r < 8) (ht : to < 48) (k : ∀ I', (∀ b, b ≠ 115 → I' b = I b) → (∀ j, j / 25 ≠ to → I' 115 j = I 115 j) → (∀ j, j < 25 → I' 115 (25 * to + j) = I 111 (25 * r + j)) → Q none g I' J) : ∀ (f j : Nat) (I' : qI), j + f = 25 → (∀ b, b ≠ 115 → I' b = I b) → (∀ j, j / 25 ≠ to → I' 115 j = I 115 j) → (∀ q, q < j → I' 115 (25 * to + q) = I 111 (25 * r + q)) → qev d 225 (2, [.ref 105, .int (nI r), .int (nI to), .int (nI j)], [], g, I', J) Q
  | 0, j, I', hj, h1, h2, h3 => w225_2 hs (brT (by rw [nI_leI (by omega) (by omega)]; omega) (k I' h1 h2 (fun q hq => h3 q (by omega))))
  | f + 1, j, I', hj, h1, h2, h3 => by
    refine w225_2 hs (brN (by rw [nI_leI (by omega) (by omega)]; omega) ⟨25 * r + j, by rw [pk_mul, nI_add], by omega, 25 * to + j, by rw [pk_mul, nI_add], by omega, ?_⟩)
    rw [nI_add]
    refine r_take_l hs hr ht k f (j + 1) _ (by omega) (fun b hb => by rw [zu_a hb]; exact h1 b hb) (fun q hq => by rw [zu_k (fun e => hq (by omega))]; exact h2 q hq) (fun q hq => ?_)
    by_cases e : q = j
    · rw [e, zu_s, h1 111 (by omega)]
    · rw [zu_k (by omega)]; exact h3 q (by omega)
theorem r_take (hs : qSh g) (hG : rG I 111 0 regs) {r to : Nat} (hr : r < 8) (ht : to < 48) (hn : (regs r).1 ≤ 24) (k : ∀ I', (∀ b, b ≠ 115 → I' b = I b) → (∀ j, j / 25 ≠ to → I' 115 j = I 115 j) → rS I' to (regs r).1 (regs r).2 → Q none g I' J) : qC d 225 [.ref 105, .int (nI r), .int (nI to)] g I J Q := by
  refine w225 (r_take_l hs hr ht (fun I' h1 h2 h3 => k I' h1 h2 ⟨?_, fun i hi => ?_⟩) 25 0 I (by omega) (fun _ _ => rfl) (fun _ _ => rfl) (fun q hq => absurd hq (by omega)))
  · have := h3 0 (by omega)
    rw [show 25 * to + 0 = 25 * to by omega] at this
    rw [this]
    have h9 := (hG r hr).1
    rw [show 0 + 25 * r = 25 * r + 0 by omega] at h9
    exact h9
  · have := h3 (1 + i) (by omega)
    rw [show 25 * to + (1 + i) = 25 * to + 1 + i by omega] at this
    rw [this]
    have h9 := (hG r hr).2 i hi
    rw [show 0 + 25 * r + 1 + i = 25 * r + (1 + i) by omega] at h9
    exact h9
/-- method 258 -/
theorem r_recur (hs : qSh g) (hR : rR I p M) (hG : rG I 111 0 regs) (hok : okG p M regs) {x1 : Int32} {i : Int} (hi : -2147483648 ≤ i ∧ i < 2147483648)
    (k0 : (∀ r, r < 8 → x1 = nI r → (regs r).1 = 0) → Q (some (.int (-1))) g (qw I 105 0 (nI 0)) J)
    (k1 : ∀ r, r < 8 → x1 = nI r → (regs r).1 ≠ 0 → ∀ I' z, (∀ b, b ≠ 105 → b ≠ 115 → b ≠ 117 → b ≠ 118 → I' b = I b) → (∀ f, f ≠ 0 → I' 105 f = I 105 f) → I' 105 0 = nI 0 → recA p (regs r).1 (regs r).2 i z → Q (some (.int (iI z))) g I' J) : qC (d + 3) 258 [.ref 105, .int x1, .int (iI i)] g I J Q := by
  have hM := hR.2.2.2.2
  have hn : ∀ r, r < 8 → (regs r).1 ≤ 24 := fun r hr => by have := (hok r hr).1; omega
  have R0 : rR (qw I 105 0 (nI 0)) p M := ⟨by rw [zu_k (by omega)]; exact hR.1, by rw [zu_k (by omega)]; exact hR.2.1, hR.2.2⟩
  have G0 : rG (qw I 105 0 (nI 0)) 111 0 regs := fun r hr => ⟨by rw [zu_a (by omega)]; exact (hG r hr).1, fun i hi => by rw [zu_a (by omega)]; exact (hG r hr).2 i hi⟩
  refine w258 hs (r_isHeld hs R0 G0 hn (fun r hr e hz => ⟨_, rfl, br1 ?_⟩) (fun h => ⟨_, rfl, br0 (k0 h)⟩))
  subst e
  have k1 := k1 r hr rfl hz
  refine r_take hs G0 hr (by omega) (hn r hr) (fun I1 f1 f2 s1 => ⟨rfl, r_len hs (by omega) s1.1 ⟨_, rfl, ?_⟩⟩)
  have R1 : rR I1 p M := ⟨by rw [f1 105 (by omega)]; exact R0.1, by rw [f1 105 (by omega)]; exact R0.2.1, R0.2.2⟩
  refine r_recur_l (I0 := I1) hs hi (fun I2 z e2 hA _ _ => k1 I2 z (fun b b1 b2 b3 b4 => ?_) (fun f hf => ?_) ?_ hA) ((regs r).1 + 2) 0 I1 (by omega) R1 s1 (hok r hr).2 ⟨fun _ _ _ _ => rfl, fun _ _ => rfl⟩ (fun _ _ _ => Nat.zero_le _)
  · rw [e2.1 b b2 b3 b4, f1 b b2, zu_a b1]
  · rw [e2.1 105 (by omega) (by omega) (by omega), f1 105 (by omega), zu_k hf]
  · rw [e2.1 105 (by omega) (by omega) (by omega), f1 105 (by omega), zu_s]
end RREC
