/-! RECURRENCES: what the class answers -/
theorem recA_ex {p n : Nat} {c : Nat → Int} : ∃ L C, gG p c n L C ∧ ∀ M E, gG p c n M E → L ≤ M := by
  obtain ⟨L, ⟨C, hC⟩, hm⟩ := least_ex (P := fun L => ∃ C, gG p c n L C) n ⟨fun i => if i = 0 then 1 else 0, if_pos rfl, fun i hi => if_neg (by omega), fun j h1 h2 => absurd h2 (by omega)⟩
  exact ⟨L, C, hC, fun M E hE => hm M ⟨E, hE⟩⟩
theorem recA_neg {p n : Nat} {c : Nat → Int} {i : Int} (h : i < 0) : recA p n c i (-1) := by
  obtain ⟨L, C, hC, hm⟩ := recA_ex (p := p) (n := n) (c := c)
  by_cases h2 : n < 2 * L
  · exact ⟨L, C, hC, hm, Or.inl ⟨h2, rfl⟩⟩
  · exact ⟨L, C, hC, hm, Or.inr (Or.inr (Or.inr ⟨by omega, Or.inl h, rfl⟩))⟩
section KREC
variable {d : Nat} {g : qG} {I : qI} {J : qJ} {Q : qQ} {p M n x a r bb bs : Nat} {c : Nat → Int} {regs : Nat → Sr}
theorem k_recur (hs : qSh g) (hg : kRc g bb bs) (hR : kR I p M) (hG : kG I 89 regs) (hok : okG p M regs) {x1 : Int32} {i : Int} (hi : -2147483648 ≤ i ∧ i < 2147483648)
    (k0 : (∀ r, r < 8 → x1 = nI r → (regs r).1 = 0) → Q (some (.int (-1))) g I J)
    (k1 : ∀ r, r < 8 → x1 = nI r → (regs r).1 ≠ 0 → ∀ g' I' z, gE g g' → qSh g' → (∃ bb bs, kRc g' bb bs) → (∀ b, (b < 84 ∨ 88 < b) → I' b = I b) → recA p (regs r).1 (regs r).2 i z → Q (some (.int (iI z))) g' I' J) : qC (d + 2) 123 [.ref 4, .int x1, .int (iI i)] g I J Q := by
  have hp := hR.2.2.1.2
  have hM := hR.2.2.2.2
  have hp2 := hR.2.2.1.two
  refine w123 hs (w135 hs ⟨fun h => ⟨_, rfl, br0 (k0 (fun r hr e => ?_))⟩, fun h => ⟨fun h8 => ?_, fun h8 => ⟨_, rfl, br0 (k0 (fun r hr e => ?_))⟩⟩⟩)
  · rw [e] at h; exact absurd h (nI_pos (by omega))
  · obtain ⟨r, hr, hr8⟩ : ∃ r, x1 = nI r ∧ r < 8 := by
      obtain ⟨z, hz, hz1⟩ : ∃ z, x1 = iI z ∧ (-2147483648 ≤ z ∧ z < 2147483648) := ⟨x1.toInt, (Int32.ofInt_toInt x1).symm, by have := x1.le_toInt; have := x1.toInt_lt; omega⟩
      rw [hz, iI_z0, iI_lt (by omega) (by omega)] at h
      rw [hz, nI_iI, iI_lt (by omega) (by omega)] at h8
      refine ⟨z.toNat, ?_, by omega⟩
      rw [hz, nI_iI]
      congr 1
      omega
    subst hr
    have hq := hok r hr8
    refine ⟨r, rfl, hr8, _, rfl, ?_⟩
    rw [(hG r hr8).1, ← nI_0, nI_eq (by omega) (by omega)]
    by_cases hz : (regs r).1 = 0
    · refine brT hz (k0 (fun q hq e => ?_))
      rw [nI_eq (by omega) (by omega)] at e
      rw [← e]; exact hz
    · refine brN hz ?_
      have k1 := k1 r hr8 rfl hz
      rw [nI_0, iI_z0]
      by_cases hn : 0 ≤ i
      · refine brT (by rw [iI_le (by omega) (by omega)]; exact hn) ?_
        refine k_load (hs.ser rfl (by omega)) (hs.sta rfl (by omega)) (by omega) hG (fun q hq => by have := (hok q hq).1; omega) hr8 (fun I1 s1 f1 => ⟨rfl, ?_⟩)
        refine k_find hs (hs.ser rfl (by omega)) (by omega) (by omega) hg ⟨by rw [f1 12 (by omega) (by omega)]; exact hR.1, by rw [f1 12 (by omega) (by omega)]; exact hR.2.1, hR.2.2⟩ s1 hq.2 (fun g' I' L C e1 h1 r1 a1 G1 m1 l1 c1 b1 => ⟨_, rfl, h1, ?_⟩)
        have F : ∀ b, (b < 84 ∨ 88 < b) → I' b = I b := fun b hb => by rw [a1 b (by omega) (by omega) (by omega), f1 b (by omega) (by omega)]
        rw [pk_mul, nI_ltI (by omega) (by omega)]
        by_cases h2 : (regs r).1 < 2 * L
        · refine brT h2 ?_
          rw [iI_zm1]
          exact k1 g' I' (-1) e1 h1 r1 F ⟨L, C, G1, m1, Or.inl ⟨h2, rfl⟩⟩
        · refine brN h2 ?_
          rw [nI_iI L, iI_le (by omega) (by omega), iI_eq (by omega) (by omega)]
          by_cases h3 : i ≤ L
          · refine brT h3 ?_
            by_cases h4 : i = 0
            · exact brT h4 (k1 g' I' L e1 h1 r1 F ⟨L, C, G1, m1, Or.inr (Or.inl ⟨by omega, h4, rfl⟩)⟩)
            · refine brN h4 ?_
              obtain ⟨b2, b3, g2⟩ := r1
              have ei : iI i = nI i.toNat := by rw [nI_iI]; congr 1; omega
              rw [ei]
              refine k_factor (p := p) h1 g2 c1 b1 (by omega) (i := i.toNat) (by omega) (by rw [F 12 (by omega)]; exact hR.1) ⟨_, rfl, ?_⟩
              refine k1 g' I' _ e1 h1 ⟨b2, b3, g2⟩ F ⟨L, C, G1, m1, Or.inr (Or.inr (Or.inl ⟨by omega, by omega, h3, Int.emod_nonneg _ (by omega), Int.emod_lt_of_pos _ (by omega), ?_⟩))⟩
              exact ⟨- ((- C i.toNat) / p), by have := Int.emod_add_mul_ediv (- C i.toNat) p; rw [Int.mul_neg]; omega⟩
          · refine brN h3 ?_
            rw [iI_zm1]
            exact k1 g' I' (-1) e1 h1 r1 F ⟨L, C, G1, m1, Or.inr (Or.inr (Or.inr ⟨by omega, Or.inr (by omega), rfl⟩))⟩
      · refine brN (by rw [iI_le (by omega) (by omega)]; exact hn) ?_
        rw [iI_zm1]
        exact k1 g I (-1) (gE.refl g) hs ⟨bb, bs, hg⟩ (fun _ _ => rfl) (recA_neg (by omega))
  · rw [e, nI_ltI (by omega) (by omega)] at h8; exact absurd hr h8
end KREC
