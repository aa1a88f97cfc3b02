theorem w65_71 {d : Nat} {i1 : Int32} {i2 : Int32} {i3 : Int32} {g : qG} {I : qI} {J : qJ} {Q : qQ} (hs : qSh g)  (h : ((i3 = 0 → Q (some (.int (nI 0))) g I J) ∧ (¬ i3 = 0 → qC d 66 [.ref 11, .int (I 11 2)] g I J (fun v _ _ _ => ∃ r1, v = some (.int r1) ∧ ((r1 = 0 → (((I 11 4) < i1 → Q (some (.int (nI 0))) g (qw I 11 2 ((I 11 2) - (nI 1))) J) ∧ (¬ (I 11 4) < i1 → (((I 11 4) ≤ i2 → Q (some (.int (nI 1))) g I J) ∧ (¬ (I 11 4) ≤ i2 → Q (some (.int (nI 0))) g (qw I 11 2 ((I 11 2) - (nI 1))) J))))) ∧ (¬ r1 = 0 → Q (some (.int (nI 0))) g I J)))))) : qev (d + 1) 65 (71, [.ref 11, .int i1, .int i2, .int i3], [], g, I, J) Q := by
  refine e_next (pc' := 72) rfl rfl ?_
  refine e_if (i3 = 0) (pc' := 75) rfl rfl e_d (fun hc => ?_) (fun hc => ?_)
  · replace h := h.1 hc
    refine e_iconst (pc' := 87) rfl rfl kc_0 ?_
    exact e_zret rfl (Or.inl nI_0) h
  · replace h := h.2 hc
    refine e_next (pc' := 76) rfl rfl ?_
    refine e_next (pc' := 77) rfl rfl ?_
    refine e_getI (pc' := 80) rfl (Or.inl rfl) rfl (hs.o rfl) ?_
    refine e_cpI (pc' := 83) rfl (e_sV (as := [_]) (fun _ => rfl) (Or.inl rfl) rfl (hs.o rfl) rfl rfl (Nat.le_of_ble_eq_true rfl) (Nat.le_of_ble_eq_true rfl) rfl) rfl rfl rfl ?_
    refine qev.mono h (fun v _ _ _ h => ?_)
    obtain ⟨r1, rfl, h⟩ := h
    refine ⟨r1, rfl, ?_⟩
    refine e_if (r1 = 0) (pc' := 86) rfl rfl e_d (fun hc => ?_) (fun hc => ?_)
    · replace h := h.1 hc
      refine e_next (pc' := 89) rfl rfl ?_
      refine e_getI (pc' := 92) rfl (Or.inl rfl) rfl (hs.o rfl) ?_
      refine e_next (pc' := 93) rfl rfl ?_
      refine e_icmp ((I 11 4) < i1) (pc' := 96) rfl rfl e_d (fun hc => ?_) (fun hc => ?_)
      · replace h := h.1 hc
        refine e_next (pc' := 105) rfl rfl ?_
        refine e_next (pc' := 106) rfl rfl ?_
        refine e_getI (pc' := 109) rfl (Or.inl rfl) rfl (hs.o rfl) ?_
        refine e_iconst (pc' := 110) rfl rfl kc_1 ?_
        refine e_next (pc' := 111) rfl rfl ?_
        refine e_putI (pc' := 114) rfl rfl (hs.o rfl) ?_
        refine e_iconst (pc' := 115) rfl rfl kc_0 ?_
        exact e_zret rfl (Or.inl nI_0) h
      · replace h := h.2 hc
        refine e_next (pc' := 97) rfl rfl ?_
        refine e_getI (pc' := 100) rfl (Or.inl rfl) rfl (hs.o rfl) ?_
        refine e_next (pc' := 101) rfl rfl ?_
        refine e_icmp ((I 11 4) ≤ i2) (pc' := 104) rfl rfl e_d (fun hc => ?_) (fun hc => ?_)
        · replace h := h.1 hc
          refine e_iconst (pc' := 117) rfl rfl kc_1 ?_
          exact e_zret rfl (Or.inr nI_one) h
        · replace h := h.2 hc
          refine e_next (pc' := 105) rfl rfl ?_
          refine e_next (pc' := 106) rfl rfl ?_
          refine e_getI (pc' := 109) rfl (Or.inl rfl) rfl (hs.o rfl) ?_
          refine e_iconst (pc' := 110) rfl rfl kc_1 ?_
          refine e_next (pc' := 111) rfl rfl ?_
          refine e_putI (pc' := 114) rfl rfl (hs.o rfl) ?_
          refine e_iconst (pc' := 115) rfl rfl kc_0 ?_
          exact e_zret rfl (Or.inl nI_0) h
    · replace h := h.2 hc
      refine e_iconst (pc' := 87) rfl rfl kc_0 ?_
      exact e_zret rfl (Or.inl nI_0) h
theorem w66 {d : Nat} {x1 : Int32} {g : qG} {I : qI} {J : qJ} {Q : qQ} (hs : qSh g)  (h : ((x1 < 0 → Q (some (.int (nI 0))) g I J) ∧ (¬ x1 < 0 → (((I 5 1) ≤ x1 → Q (some (.int (nI 0))) g I J) ∧ (¬ (I 5 1) ≤ x1 → ∃ k1, x1 = nI k1 ∧ k1 < 320 ∧ (((I 6 k1) < (nI 48) → Q (some (.int (nI 0))) g I J) ∧ (¬ (I 6 k1) < (nI 48) → ∃ k2, x1 = nI k2 ∧ k2 < 320 ∧ (((nI 57) < (I 6 k2) → Q (some (.int (nI 0))) g I J) ∧ (¬ (nI 57) < (I 6 k2) → Q (some (.int (nI 1))) g I J))))))))) : qC d 66 [.ref 11, .int x1] g I J Q := by
  show qev d 66 (0, [.ref 11, .int x1], [], g, I, J) Q
  refine e_next (pc' := 1) rfl rfl ?_
  refine e_if (x1 < 0) (pc' := 4) rfl rfl e_d (fun hc => ?_) (fun hc => ?_)
  · replace h := h.1 hc
    refine e_iconst (pc' := 48) rfl rfl kc_0 ?_
    exact e_zret rfl (Or.inl nI_0) h
  · replace h := h.2 hc
    refine e_next (pc' := 5) rfl rfl ?_
    refine e_next (pc' := 6) rfl rfl ?_
    refine e_getR (pc' := 9) rfl rfl (hs.o rfl) (hs.a rfl) ?_
    refine e_getI (pc' := 12) rfl (Or.inl rfl) rfl (hs.o rfl) ?_
    refine e_icmp ((I 5 1) ≤ x1) (pc' := 15) rfl rfl e_d (fun hc => ?_) (fun hc => ?_)
    · replace h := h.1 hc
      refine e_iconst (pc' := 48) rfl rfl kc_0 ?_
      exact e_zret rfl (Or.inl nI_0) h
    · replace h := h.2 hc
      refine e_next (pc' := 16) rfl rfl ?_
      refine e_getR (pc' := 19) rfl rfl (hs.o rfl) (hs.a rfl) ?_
      refine e_getR (pc' := 22) rfl rfl (hs.o rfl) (hs.a rfl) ?_
      refine e_next (pc' := 23) rfl rfl ?_
      obtain ⟨k1, hi_k1, hj_k1, h⟩ := h
      refine e_iald k1 (pc' := 24) rfl rfl (hs.k rfl) hi_k1 hj_k1 (by decide) ?_
      refine e_bipush (pc' := 26) rfl rfl kb_48 ?_
      refine e_icmp ((I 6 k1) < (nI 48)) (pc' := 29) rfl rfl e_d (fun hc => ?_) (fun hc => ?_)
      · replace h := h.1 hc
        refine e_iconst (pc' := 48) rfl rfl kc_0 ?_
        exact e_zret rfl (Or.inl nI_0) h
      · replace h := h.2 hc
        refine e_next (pc' := 30) rfl rfl ?_
        refine e_getR (pc' := 33) rfl rfl (hs.o rfl) (hs.a rfl) ?_
        refine e_getR (pc' := 36) rfl rfl (hs.o rfl) (hs.a rfl) ?_
        refine e_next (pc' := 37) rfl rfl ?_
        obtain ⟨k2, hi_k2, hj_k2, h⟩ := h
        refine e_iald k2 (pc' := 38) rfl rfl (hs.k rfl) hi_k2 hj_k2 (by decide) ?_
        refine e_bipush (pc' := 40) rfl rfl kb_57 ?_
        refine e_icmp ((nI 57) < (I 6 k2)) (pc' := 43) rfl rfl e_d (fun hc => ?_) (fun hc => ?_)
        · replace h := h.1 hc
          refine e_iconst (pc' := 48) rfl rfl kc_0 ?_
          exact e_zret rfl (Or.inl nI_0) h
        · replace h := h.2 hc
          refine e_iconst (pc' := 44) rfl rfl kc_1 ?_
          refine e_next (pc' := 48) rfl rfl ?_
          exact e_zret rfl (Or.inr nI_one) h
theorem w67 {d : Nat}  {g : qG} {I : qI} {J : qJ} {Q : qQ} (hs : qSh g)  (h : (((I 5 1) ≤ (I 11 2) → (((I 5 1) ≤ (I 11 2) → Q (some (.int (nI 0))) g I J) ∧ (¬ (I 5 1) ≤ (I 11 2) → ∃ k1, (I 11 2) = nI k1 ∧ k1 < 320 ∧ Q (some (.int (I 6 k1))) g I J))) ∧ (¬ (I 5 1) ≤ (I 11 2) → ∃ k2, (I 11 2) = nI k2 ∧ k2 < 320 ∧ (((I 6 k2) = (nI 32) → qev d 67 (0, [.ref 11], [], g, (qw I 11 2 ((I 11 2) + (nI 1))), J) Q) ∧ (¬ (I 6 k2) = (nI 32) → (((I 5 1) ≤ (I 11 2) → Q (some (.int (nI 0))) g I J) ∧ (¬ (I 5 1) ≤ (I 11 2) → ∃ k3, (I 11 2) = nI k3 ∧ k3 < 320 ∧ Q (some (.int (I 6 k3))) g I J))))))) : qC d 67 [.ref 11] g I J Q := by
  show qev d 67 (0, [.ref 11], [], g, I, J) Q
  refine e_next (pc' := 1) rfl rfl ?_
  refine e_getI (pc' := 4) rfl (Or.inl rfl) rfl (hs.o rfl) ?_
  refine e_next (pc' := 5) rfl rfl ?_
  refine e_getR (pc' := 8) rfl rfl (hs.o rfl) (hs.a rfl) ?_
  refine e_getI (pc' := 11) rfl (Or.inl rfl) rfl (hs.o rfl) ?_
  refine e_icmp ((I 5 1) ≤ (I 11 2)) (pc' := 14) rfl rfl e_d (fun hc => ?_) (fun hc => ?_)
  · replace h := h.1 hc
    refine e_next (pc' := 45) rfl rfl ?_
    refine e_getI (pc' := 48) rfl (Or.inl rfl) rfl (hs.o rfl) ?_
    refine e_next (pc' := 49) rfl rfl ?_
    refine e_getR (pc' := 52) rfl rfl (hs.o rfl) (hs.a rfl) ?_
    refine e_getI (pc' := 55) rfl (Or.inl rfl) rfl (hs.o rfl) ?_
    refine e_icmp ((I 5 1) ≤ (I 11 2)) (pc' := 58) rfl rfl e_d (fun hc => ?_) (fun hc => ?_)
    · replace h := h.1 hc
      refine e_iconst (pc' := 74) rfl rfl kc_0 ?_
      exact e_iret rfl h
    · replace h := h.2 hc
      refine e_next (pc' := 59) rfl rfl ?_
      refine e_getR (pc' := 62) rfl rfl (hs.o rfl) (hs.a rfl) ?_
      refine e_getR (pc' := 65) rfl rfl (hs.o rfl) (hs.a rfl) ?_
      refine e_next (pc' := 66) rfl rfl ?_
      refine e_getI (pc' := 69) rfl (Or.inl rfl) rfl (hs.o rfl) ?_
      obtain ⟨k1, hi_k1, hj_k1, h⟩ := h
      refine e_iald k1 (pc' := 70) rfl rfl (hs.k rfl) hi_k1 hj_k1 (by decide) ?_
      refine e_next (pc' := 74) rfl rfl ?_
      exact e_iret rfl h
  · replace h := h.2 hc
    refine e_next (pc' := 15) rfl rfl ?_
    refine e_getR (pc' := 18) rfl rfl (hs.o rfl) (hs.a rfl) ?_
    refine e_getR (pc' := 21) rfl rfl (hs.o rfl) (hs.a rfl) ?_
    refine e_next (pc' := 22) rfl rfl ?_
    refine e_getI (pc' := 25) rfl (Or.inl rfl) rfl (hs.o rfl) ?_
    obtain ⟨k2, hi_k2, hj_k2, h⟩ := h
    refine e_iald k2 (pc' := 26) rfl rfl (hs.k rfl) hi_k2 hj_k2 (by decide) ?_
    refine e_bipush (pc' := 28) rfl rfl kb_32 ?_
    refine e_icmp (¬ (I 6 k2) = (nI 32)) (pc' := 31) rfl rfl e_d (fun hc => ?_) (fun hc => ?_)
    · replace h := h.2 hc
      refine e_next (pc' := 45) rfl rfl ?_
      refine e_getI (pc' := 48) rfl (Or.inl rfl) rfl (hs.o rfl) ?_
      refine e_next (pc' := 49) rfl rfl ?_
      refine e_getR (pc' := 52) rfl rfl (hs.o rfl) (hs.a rfl) ?_
      refine e_getI (pc' := 55) rfl (Or.inl rfl) rfl (hs.o rfl) ?_
      refine e_icmp ((I 5 1) ≤ (I 11 2)) (pc' := 58) rfl rfl e_d (fun hc => ?_) (fun hc => ?_)
      · replace h := h.1 hc
        refine e_iconst (pc' := 74) rfl rfl kc_0 ?_
        exact e_iret rfl h
      · replace h := h.2 hc
        refine e_next (pc' := 59) rfl rfl ?_
        refine e_getR (pc' := 62) rfl rfl (hs.o rfl) (hs.a rfl) ?_
        refine e_getR (pc' := 65) rfl rfl (hs.o rfl) (hs.a rfl) ?_
        refine e_next (pc' := 66) rfl rfl ?_
        refine e_getI (pc' := 69) rfl (Or.inl rfl) rfl (hs.o rfl) ?_
        obtain ⟨k3, hi_k3, hj_k3, h⟩ := h
        refine e_iald k3 (pc' := 70) rfl rfl (hs.k rfl) hi_k3 hj_k3 (by decide) ?_
        refine e_next (pc' := 74) rfl rfl ?_
        exact e_iret rfl h
    · replace h := h.1 (Decidable.not_not.mp hc)
      refine e_next (pc' := 32) rfl rfl ?_
      refine e_next (pc' := 33) rfl rfl ?_
      refine e_getI (pc' := 36) rfl (Or.inl rfl) rfl (hs.o rfl) ?_
      refine e_iconst (pc' := 37) rfl rfl kc_1 ?_
      refine e_next (pc' := 38) rfl rfl ?_
      refine e_putI (pc' := 41) rfl rfl (hs.o rfl) ?_
      refine e_next (pc' := 0) rfl rfl ?_
      exact h
theorem w70 {d : Nat} {x1 : Nat} {x2 : Int32} {x3 : Int32} {g : qG} {I : qI} {J : qJ} {Q : qQ} (h_x1 : qSer g x1) (h : qev d 70 (6, [.ref 83, .ref x1, .int x2, .int x3, .int (nI 0), .int (nI 0)], [], g, I, J) Q) : qC d 70 [.ref 83, .ref x1, .int x2, .int x3] g I J Q := by
  show qev d 70 (0, [.ref 83, .ref x1, .int x2, .int x3, qpad, qpad], [], g, I, J) Q
  refine e_iconst (pc' := 1) rfl rfl kc_0 ?_
  refine e_next (pc' := 3) (ls' := [_, _, _, _, _, _]) rfl rfl ?_
  refine e_iconst (pc' := 4) rfl rfl kc_0 ?_
  refine e_next (pc' := 6) (ls' := [_, _, _, _, _, _]) rfl rfl ?_
  exact h
theorem w70_6 {d : Nat} {x1 : Nat} {i2 : Int32} {i3 : Int32} {i4 : Int32} {i5 : Int32} {g : qG} {I : qI} {J : qJ} {Q : qQ} (hs : qSh g) (h_x1 : qSer g x1) (h : ((i3 < i5 → Q (some (.int i4)) g I J) ∧ (¬ i3 < i5 → ((i2 < i5 → Q (some (.int i4)) g I J) ∧ (¬ i2 < i5 → ∃ b1, (g.2.1 83 0) = some b1 ∧ g.1 b1 = some (100, 25) ∧ ∃ k1, i5 = nI k1 ∧ k1 < 25 ∧ ∃ k2, (i2 - i5) = nI k2 ∧ k2 < 24 ∧ qev d 70 (6, [.ref 83, .ref x1, .int i2, .int i3, .int (i4 + ((I b1 k1) * (I (x1 + 1) k2))), .int (i5 + (nI 1))], [], g, I, J) Q))))) : qev d 70 (6, [.ref 83, .ref x1, .int i2, .int i3, .int i4, .int i5], [], g, I, J) Q := by
  refine e_next (pc' := 8) rfl rfl ?_
  refine e_next (pc' := 9) rfl rfl ?_
  refine e_icmp (i3 < i5) (pc' := 12) rfl rfl e_d (fun hc => ?_) (fun hc => ?_)
  · replace h := h.1 hc
    refine e_next (pc' := 48) rfl rfl ?_
    exact e_iret rfl h
  · replace h := h.2 hc
    refine e_next (pc' := 14) rfl rfl ?_
    refine e_next (pc' := 15) rfl rfl ?_
    refine e_icmp (i2 < i5) (pc' := 18) rfl rfl e_d (fun hc => ?_) (fun hc => ?_)
    · replace h := h.1 hc
      refine e_next (pc' := 48) rfl rfl ?_
      exact e_iret rfl h
    · replace h := h.2 hc
      refine e_next (pc' := 20) rfl rfl ?_
      refine e_next (pc' := 21) rfl rfl ?_
      refine e_getA (pc' := 24) (v := g.2.1 83 0) rfl rfl (hs.o rfl) rfl ?_
      refine e_next (pc' := 26) rfl rfl ?_
      obtain ⟨b1, hc_b1, hk_b1, h⟩ := h
      try rw [hc_b1]
      obtain ⟨k1, hi_k1, hj_k1, h⟩ := h
      refine e_iald k1 (pc' := 27) rfl rfl hk_b1 hi_k1 hj_k1 (by decide) ?_
      refine e_next (pc' := 28) rfl rfl ?_
      refine e_getR (pc' := 31) rfl rfl h_x1.o h_x1.a0 ?_
      refine e_next (pc' := 32) rfl rfl ?_
      refine e_next (pc' := 34) rfl rfl ?_
      refine e_next (pc' := 35) rfl rfl ?_
      obtain ⟨k2, hi_k2, hj_k2, h⟩ := h
      refine e_iald k2 (pc' := 36) rfl rfl h_x1.k0 hi_k2 hj_k2 (by decide) ?_
      refine e_next (pc' := 37) rfl rfl ?_
      refine e_next (pc' := 38) rfl rfl ?_
      refine e_next (pc' := 40) (ls' := [_, _, _, _, _, _]) rfl rfl ?_
      refine e_iinc (pc' := 43) (ls' := [_, _, _, _, _, _]) (v := (nI 1)) rfl rfl kc_1 rfl rfl ?_
      refine e_next (pc' := 6) rfl rfl ?_
      exact h
theorem w71 {d : Nat} {x1 : Int32} {x2 : Int32} {g : qG} {I : qI} {J : qJ} {Q : qQ} (hs : qSh g)  (h : ((x1 < (nI 1) → Q (some (.int (nI 0))) g I J) ∧ (¬ x1 < (nI 1) → (((nI 25) ≤ x1 → Q (some (.int (nI 0))) g I J) ∧ (¬ (nI 25) ≤ x1 → ∃ b1, (g.2.1 83 0) = some b1 ∧ g.1 b1 = some (100, 25) ∧ ∃ k1, x1 = nI k1 ∧ k1 < 25 ∧ (((I b1 k1) = 0 → Q (some (.int (nI 0))) g I J) ∧ (¬ (I b1 k1) = 0 → ∃ b2, (g.2.1 83 0) = some b2 ∧ g.1 b2 = some (100, 25) ∧ ∃ k2, x1 = nI k2 ∧ k2 < 25 ∧ Q (some (.int (x2 - (I b2 k2)))) g I J))))))) : qC d 71 [.ref 83, .int x1, .int x2] g I J Q := by
  show qev d 71 (0, [.ref 83, .int x1, .int x2], [], g, I, J) Q
  refine e_next (pc' := 1) rfl rfl ?_
  refine e_iconst (pc' := 2) rfl rfl kc_1 ?_
  refine e_icmp (x1 < (nI 1)) (pc' := 5) rfl rfl e_d (fun hc => ?_) (fun hc => ?_)
  · replace h := h.1 hc
    refine e_iconst (pc' := 21) rfl rfl kc_0 ?_
    refine e_next (pc' := 32) rfl rfl ?_
    exact e_iret rfl h
  · replace h := h.2 hc
    refine e_next (pc' := 6) rfl rfl ?_
    refine e_bipush (pc' := 8) rfl rfl kb_25 ?_
    refine e_icmp ((nI 25) ≤ x1) (pc' := 11) rfl rfl e_d (fun hc => ?_) (fun hc => ?_)
    · replace h := h.1 hc
      refine e_iconst (pc' := 21) rfl rfl kc_0 ?_
      refine e_next (pc' := 32) rfl rfl ?_
      exact e_iret rfl h
    · replace h := h.2 hc
      refine e_next (pc' := 12) rfl rfl ?_
      refine e_getA (pc' := 15) (v := g.2.1 83 0) rfl rfl (hs.o rfl) rfl ?_
      refine e_next (pc' := 16) rfl rfl ?_
      obtain ⟨b1, hc_b1, hk_b1, h⟩ := h
      try rw [hc_b1]
      obtain ⟨k1, hi_k1, hj_k1, h⟩ := h
      refine e_iald k1 (pc' := 17) rfl rfl hk_b1 hi_k1 hj_k1 (by decide) ?_
      refine e_if (¬ (I b1 k1) = 0) (pc' := 20) rfl rfl e_d (fun hc => ?_) (fun hc => ?_)
      · replace h := h.2 hc
        refine e_next (pc' := 25) rfl rfl ?_
        refine e_next (pc' := 26) rfl rfl ?_
        refine e_getA (pc' := 29) (v := g.2.1 83 0) rfl rfl (hs.o rfl) rfl ?_
        refine e_next (pc' := 30) rfl rfl ?_
        obtain ⟨b2, hc_b2, hk_b2, h⟩ := h
        try rw [hc_b2]
        obtain ⟨k2, hi_k2, hj_k2, h⟩ := h
        refine e_iald k2 (pc' := 31) rfl rfl hk_b2 hi_k2 hj_k2 (by decide) ?_
        refine e_next (pc' := 32) rfl rfl ?_
        exact e_iret rfl h
      · replace h := h.1 (Decidable.not_not.mp hc)
        refine e_iconst (pc' := 21) rfl rfl kc_0 ?_
        refine e_next (pc' := 32) rfl rfl ?_
        exact e_iret rfl h
theorem w73 {d : Nat} {o0 : Nat} {g : qG} {I : qI} {J : qJ} {Q : qQ} (h_o0 : qSer g o0) (h : qev d 73 (2, [.ref o0, .int (nI 0)], [], g, I, J) Q) : qC d 73 [.ref o0] g I J Q := by
  show qev d 73 (0, [.ref o0, qpad], [], g, I, J) Q
  refine e_iconst (pc' := 1) rfl rfl kc_0 ?_
  refine e_next (pc' := 2) (ls' := [_, _]) rfl rfl ?_
  exact h
theorem w73_2 {d : Nat} {o0 : Nat} {i1 : Int32} {g : qG} {I : qI} {J : qJ} {Q : qQ} (h_o0 : qSer g o0) (h : (((I o0 1) ≤ i1 → Q (some (.int (I o0 1))) g I J) ∧ (¬ (I o0 1) ≤ i1 → ∃ k1, i1 = nI k1 ∧ k1 < 24 ∧ (((I (o0 + 1) k1) = 0 → qev d 73 (2, [.ref o0, .int (i1 + (nI 1))], [], g, I, J) Q) ∧ (¬ (I (o0 + 1) k1) = 0 → Q (some (.int i1)) g I J))))) : qev d 73 (2, [.ref o0, .int i1], [], g, I, J) Q := by
  refine e_next (pc' := 3) rfl rfl ?_
  refine e_next (pc' := 4) rfl rfl ?_
  refine e_getI (pc' := 7) rfl (Or.inl rfl) rfl h_o0.o ?_
  refine e_icmp ((I o0 1) ≤ i1) (pc' := 10) rfl rfl e_d (fun hc => ?_) (fun hc => ?_)
  · replace h := h.1 hc
    refine e_next (pc' := 28) rfl rfl ?_
    refine e_getI (pc' := 31) rfl (Or.inl rfl) rfl h_o0.o ?_
    exact e_iret rfl h
  · replace h := h.2 hc
    refine e_next (pc' := 11) rfl rfl ?_
    refine e_getR (pc' := 14) rfl rfl h_o0.o h_o0.a0 ?_
    refine e_next (pc' := 15) rfl rfl ?_
    obtain ⟨k1, hi_k1, hj_k1, h⟩ := h
    refine e_iald k1 (pc' := 16) rfl rfl h_o0.k0 hi_k1 hj_k1 (by decide) ?_
    refine e_if ((I (o0 + 1) k1) = 0) (pc' := 19) rfl rfl e_d (fun hc => ?_) (fun hc => ?_)
    · replace h := h.1 hc
      refine e_iinc (pc' := 24) (ls' := [_, _]) (v := (nI 1)) rfl rfl kc_1 rfl rfl ?_
      refine e_next (pc' := 2) rfl rfl ?_
      exact h
    · replace h := h.2 hc
      refine e_next (pc' := 20) rfl rfl ?_
      exact e_iret rfl h
theorem w74 {d : Nat} {o0 : Nat} {x1 : Nat} {g : qG} {I : qI} {J : qJ} {Q : qQ} (h_o0 : qSer g o0) (h_x1 : qSer g x1) (h : ∃ s1 t1 n1 : Nat, (nI 0) = nI s1 ∧ (nI 0) = nI t1 ∧ (nI 24) = nI n1 ∧ s1 + n1 ≤ 24 ∧ t1 + n1 ≤ 24 ∧ Q none g (qw (va_up I (o0 + 1) (va_cpy (I (x1 + 1)) (I (o0 + 1)) s1 t1 n1)) o0 1 ((va_up I (o0 + 1) (va_cpy (I (x1 + 1)) (I (o0 + 1)) s1 t1 n1)) x1 1)) J) : qC d 74 [.ref o0, .ref x1] g I J Q := by
  show qev d 74 (0, [.ref o0, .ref x1], [], g, I, J) Q
  refine e_next (pc' := 1) rfl rfl ?_
  refine e_getR (pc' := 4) rfl rfl h_x1.o h_x1.a0 ?_
  refine e_iconst (pc' := 5) rfl rfl kc_0 ?_
  refine e_next (pc' := 6) rfl rfl ?_
  refine e_getR (pc' := 9) rfl rfl h_o0.o h_o0.a0 ?_
  refine e_iconst (pc' := 10) rfl rfl kc_0 ?_
  refine e_bipush (pc' := 12) rfl rfl kb_24 ?_
  obtain ⟨s1, t1, n1, hs_s1, hd_s1, hn_s1, h1_s1, h2_s1, h⟩ := h
  refine e_copy s1 t1 n1 (pc' := 15) rfl rfl (Nat.le_of_ble_eq_true rfl) h_x1.k0 h_o0.k0 hs_s1 hd_s1 hn_s1 h1_s1 h2_s1 (by decide) (by decide) ?_
  refine e_next (pc' := 16) rfl rfl ?_
  refine e_next (pc' := 17) rfl rfl ?_
  refine e_getI (pc' := 20) rfl (Or.inl rfl) rfl h_x1.o ?_
  refine e_putI (pc' := 23) rfl rfl h_o0.o ?_
  exact qev_ret rfl rfl h
theorem w75 {d : Nat} {o0 : Nat} {x1 : Int32} {g : qG} {I : qI} {J : qJ} {Q : qQ} (h_o0 : qSer g o0) (h : Q none g (qw I o0 1 (qmin (I o0 1) x1)) J) : qC d 75 [.ref o0, .int x1] g I J Q := by
  show qev d 75 (0, [.ref o0, .int x1], [], g, I, J) Q
  refine e_next (pc' := 1) rfl rfl ?_
  refine e_next (pc' := 2) rfl rfl ?_
  refine e_getI (pc' := 5) rfl (Or.inl rfl) rfl h_o0.o ?_
  refine e_next (pc' := 6) rfl rfl ?_
  refine e_min (pc' := 9) rfl rfl (Nat.le_of_ble_eq_true rfl) ?_
  refine e_putI (pc' := 12) rfl rfl h_o0.o ?_
  exact qev_ret rfl rfl h
theorem w76 {d : Nat} {o0 : Nat} {x1 : Int32} {g : qG} {I : qI} {J : qJ} {Q : qQ} (h_o0 : qSer g o0) (h : qev d 76 (12, [.ref o0, .int x1, .int (qmin x1 (nI 24)), .int (I o0 1)], [], g, I, J) Q) : qC d 76 [.ref o0, .int x1] g I J Q := by
  show qev d 76 (0, [.ref o0, .int x1, qpad, qpad], [], g, I, J) Q
  refine e_next (pc' := 1) rfl rfl ?_
  refine e_bipush (pc' := 3) rfl rfl kb_24 ?_
  refine e_min (pc' := 6) rfl rfl (Nat.le_of_ble_eq_true rfl) ?_
  refine e_next (pc' := 7) (ls' := [_, _, _, _]) rfl rfl ?_
  refine e_next (pc' := 8) rfl rfl ?_
  refine e_getI (pc' := 11) rfl (Or.inl rfl) rfl h_o0.o ?_
  refine e_next (pc' := 12) (ls' := [_, _, _, _]) rfl rfl ?_
  exact h
theorem w76_12 {d : Nat} {o0 : Nat} {i1 : Int32} {i2 : Int32} {i3 : Int32} {g : qG} {I : qI} {J : qJ} {Q : qQ} (h_o0 : qSer g o0) (h : ((i2 ≤ i3 → Q none g (qw I o0 1 i2) J) ∧ (¬ i2 ≤ i3 → ∃ k1, i3 = nI k1 ∧ k1 < 24 ∧ qev d 76 (12, [.ref o0, .int i1, .int i2, .int (i3 + (nI 1))], [], g, (qw I (o0 + 1) k1 (nI 0)), J) Q))) : qev d 76 (12, [.ref o0, .int i1, .int i2, .int i3], [], g, I, J) Q := by
  refine e_next (pc' := 13) rfl rfl ?_
  refine e_next (pc' := 14) rfl rfl ?_
  refine e_icmp (i2 ≤ i3) (pc' := 17) rfl rfl e_d (fun hc => ?_) (fun hc => ?_)
  · replace h := h.1 hc
    refine e_next (pc' := 31) rfl rfl ?_
    refine e_next (pc' := 32) rfl rfl ?_
    refine e_putI (pc' := 35) rfl rfl h_o0.o ?_
    exact qev_ret rfl rfl h
  · replace h := h.2 hc
    refine e_next (pc' := 18) rfl rfl ?_
    refine e_getR (pc' := 21) rfl rfl h_o0.o h_o0.a0 ?_
    refine e_next (pc' := 22) rfl rfl ?_
    refine e_iconst (pc' := 23) rfl rfl kc_0 ?_
    obtain ⟨k1, hi_k1, hj_k1, h⟩ := h
    refine e_iast k1 (pc' := 24) rfl rfl h_o0.k0 hi_k1 hj_k1 (by decide) ?_
    refine e_iinc (pc' := 27) (ls' := [_, _, _, _]) (v := (nI 1)) rfl rfl kc_1 rfl rfl ?_
    refine e_next (pc' := 12) rfl rfl ?_
    exact h
theorem w77 {d : Nat} {o0 : Nat} {x1 : Int32} {g : qG} {I : qI} {J : qJ} {Q : qQ} (h_o0 : qSer g o0) (h : ((x1 ≤ 0 → Q none g I J) ∧ (¬ x1 ≤ 0 → (((I o0 1) < x1 → Q none g I J) ∧ (¬ (I o0 1) < x1 → ∃ s1 t1 n1 : Nat, x1 = nI s1 ∧ (nI 0) = nI t1 ∧ ((I o0 1) - x1) = nI n1 ∧ s1 + n1 ≤ 24 ∧ t1 + n1 ≤ 24 ∧ Q none g (qw (va_up I (o0 + 1) (va_cpy (I (o0 + 1)) (I (o0 + 1)) s1 t1 n1)) o0 1 (((va_up I (o0 + 1) (va_cpy (I (o0 + 1)) (I (o0 + 1)) s1 t1 n1)) o0 1) - x1)) J))))) : qC d 77 [.ref o0, .int x1] g I J Q := by
  show qev d 77 (0, [.ref o0, .int x1], [], g, I, J) Q
  refine e_next (pc' := 1) rfl rfl ?_
  refine e_if (x1 ≤ 0) (pc' := 4) rfl rfl e_d (fun hc => ?_) (fun hc => ?_)
  · replace h := h.1 hc
    exact qev_ret rfl rfl h
  · replace h := h.2 hc
    refine e_next (pc' := 5) rfl rfl ?_
    refine e_next (pc' := 6) rfl rfl ?_
    refine e_getI (pc' := 9) rfl (Or.inl rfl) rfl h_o0.o ?_
    refine e_icmp ((I o0 1) < x1) (pc' := 12) rfl rfl e_d (fun hc => ?_) (fun hc => ?_)
    · replace h := h.1 hc
      exact qev_ret rfl rfl h
    · replace h := h.2 hc
      refine e_next (pc' := 13) rfl rfl ?_
      refine e_getR (pc' := 16) rfl rfl h_o0.o h_o0.a0 ?_
      refine e_next (pc' := 17) rfl rfl ?_
      refine e_next (pc' := 18) rfl rfl ?_
      refine e_getR (pc' := 21) rfl rfl h_o0.o h_o0.a0 ?_
      refine e_iconst (pc' := 22) rfl rfl kc_0 ?_
      refine e_next (pc' := 23) rfl rfl ?_
      refine e_getI (pc' := 26) rfl (Or.inl rfl) rfl h_o0.o ?_
      refine e_next (pc' := 27) rfl rfl ?_
      refine e_next (pc' := 28) rfl rfl ?_
      obtain ⟨s1, t1, n1, hs_s1, hd_s1, hn_s1, h1_s1, h2_s1, h⟩ := h
      refine e_copy s1 t1 n1 (pc' := 31) rfl rfl (Nat.le_of_ble_eq_true rfl) h_o0.k0 h_o0.k0 hs_s1 hd_s1 hn_s1 h1_s1 h2_s1 (by decide) (by decide) ?_
      refine e_next (pc' := 32) rfl rfl ?_
      refine e_next (pc' := 33) rfl rfl ?_
      refine e_getI (pc' := 36) rfl (Or.inl rfl) rfl h_o0.o ?_
      refine e_next (pc' := 37) rfl rfl ?_
      refine e_next (pc' := 38) rfl rfl ?_
      refine e_putI (pc' := 41) rfl rfl h_o0.o ?_
      exact qev_ret rfl rfl h
theorem w79 {d : Nat} {o0 : Nat} {g : qG} {I : qI} {J : qJ} {Q : qQ} (h_o0 : qSta g o0) (h : qC d 268 [.ref (o0 + 1), .int (nI 0)] g I J (fun v _ I1 _ => v = none ∧ Q none g (qw I1 o0 3 (nI 0)) J)) : qC (d + 1) 79 [.ref o0] g I J Q := by
  show qev (d + 1) 79 (0, [.ref o0], [], g, I, J) Q
  refine e_next (pc' := 1) rfl rfl ?_
  refine e_getR (pc' := 4) rfl rfl h_o0.o h_o0.a0 ?_
  refine e_iconst (pc' := 5) rfl rfl kc_0 ?_
  refine e_ciV (pc' := 8) rfl (e_sS (as := [_, _]) (fun _ => rfl) rfl (Nat.le_of_ble_eq_true rfl) rfl rfl (Nat.le_of_ble_eq_true rfl) (Nat.le_of_ble_eq_true rfl) rfl) rfl rfl ?_
  refine qev.mono h (fun v _ I1 _ h => ?_)
  obtain ⟨rfl, h⟩ := h
  refine ⟨rfl, ?_⟩
  refine e_next (pc' := 9) rfl rfl ?_
  refine e_iconst (pc' := 10) rfl rfl kc_0 ?_
  refine e_putI (pc' := 13) rfl rfl h_o0.o ?_
  exact qev_ret rfl rfl h
theorem w80 {d : Nat} {o0 : Nat} {x1 : Nat} {g : qG} {I : qI} {J : qJ} {Q : qQ} (h_o0 : qSta g o0) (h_x1 : qSta g x1) (h : ∃ s1 t1 n1 : Nat, (nI 0) = nI s1 ∧ (nI 0) = nI t1 ∧ (nI 8) = nI n1 ∧ s1 + n1 ≤ 8 ∧ t1 + n1 ≤ 8 ∧ ∃ s2 t2 n2 : Nat, (nI 0) = nI s2 ∧ (nI 0) = nI t2 ∧ (nI 192) = nI n2 ∧ s2 + n2 ≤ 192 ∧ t2 + n2 ≤ 192 ∧ ∃ s3 t3 n3 : Nat, (nI 0) = nI s3 ∧ (nI 0) = nI t3 ∧ (nI 60) = nI n3 ∧ s3 + n3 ≤ 60 ∧ t3 + n3 ≤ 60 ∧ Q none g (qw (va_up (va_up (va_up I (o0 + 1) (va_cpy (I (x1 + 1)) (I (o0 + 1)) s1 t1 n1)) (o0 + 2) (va_cpy ((va_up I (o0 + 1) (va_cpy (I (x1 + 1)) (I (o0 + 1)) s1 t1 n1)) (x1 + 2)) ((va_up I (o0 + 1) (va_cpy (I (x1 + 1)) (I (o0 + 1)) s1 t1 n1)) (o0 + 2)) s2 t2 n2)) (o0 + 3) (va_cpy ((va_up (va_up I (o0 + 1) (va_cpy (I (x1 + 1)) (I (o0 + 1)) s1 t1 n1)) (o0 + 2) (va_cpy ((va_up I (o0 + 1) (va_cpy (I (x1 + 1)) (I (o0 + 1)) s1 t1 n1)) (x1 + 2)) ((va_up I (o0 + 1) (va_cpy (I (x1 + 1)) (I (o0 + 1)) s1 t1 n1)) (o0 + 2)) s2 t2 n2)) (x1 + 3)) ((va_up (va_up I (o0 + 1) (va_cpy (I (x1 + 1)) (I (o0 + 1)) s1 t1 n1)) (o0 + 2) (va_cpy ((va_up I (o0 + 1) (va_cpy (I (x1 + 1)) (I (o0 + 1)) s1 t1 n1)) (x1 + 2)) ((va_up I (o0 + 1) (va_cpy (I (x1 + 1)) (I (o0 + 1)) s1 t1 n1)) (o0 + 2)) s2 t2 n2)) (o0 + 3)) s3 t3 n3)) o0 3 ((va_up (va_up (va_up I (o0 + 1) (va_cpy (I (x1 + 1)) (I (o0 + 1)) s1 t1 n1)) (o0 + 2) (va_cpy ((va_up I (o0 + 1) (va_cpy (I (x1 + 1)) (I (o0 + 1)) s1 t1 n1)) (x1 + 2)) ((va_up I (o0 + 1) (va_cpy (I (x1 + 1)) (I (o0 + 1)) s1 t1 n1)) (o0 + 2)) s2 t2 n2)) (o0 + 3) (va_cpy ((va_up (va_up I (o0 + 1) (va_cpy (I (x1 + 1)) (I (o0 + 1)) s1 t1 n1)) (o0 + 2) (va_cpy ((va_up I (o0 + 1) (va_cpy (I (x1 + 1)) (I (o0 + 1)) s1 t1 n1)) (x1 + 2)) ((va_up I (o0 + 1) (va_cpy (I (x1 + 1)) (I (o0 + 1)) s1 t1 n1)) (o0 + 2)) s2 t2 n2)) (x1 + 3)) ((va_up (va_up I (o0 + 1) (va_cpy (I (x1 + 1)) (I (o0 + 1)) s1 t1 n1)) (o0 + 2) (va_cpy ((va_up I (o0 + 1) (va_cpy (I (x1 + 1)) (I (o0 + 1)) s1 t1 n1)) (x1 + 2)) ((va_up I (o0 + 1) (va_cpy (I (x1 + 1)) (I (o0 + 1)) s1 t1 n1)) (o0 + 2)) s2 t2 n2)) (o0 + 3)) s3 t3 n3)) x1 3)) J) : qC d 80 [.ref o0, .ref x1] g I J Q := by
  show qev d 80 (0, [.ref o0, .ref x1], [], g, I, J) Q
  refine e_next (pc' := 1) rfl rfl ?_
  refine e_getR (pc' := 4) rfl rfl h_x1.o h_x1.a0 ?_
  refine e_iconst (pc' := 5) rfl rfl kc_0 ?_
  refine e_next (pc' := 6) rfl rfl ?_
  refine e_getR (pc' := 9) rfl rfl h_o0.o h_o0.a0 ?_
  refine e_iconst (pc' := 10) rfl rfl kc_0 ?_
  refine e_bipush (pc' := 12) rfl rfl kb_8 ?_
  obtain ⟨s1, t1, n1, hs_s1, hd_s1, hn_s1, h1_s1, h2_s1, h⟩ := h
  refine e_copy s1 t1 n1 (pc' := 15) rfl rfl (Nat.le_of_ble_eq_true rfl) h_x1.k0 h_o0.k0 hs_s1 hd_s1 hn_s1 h1_s1 h2_s1 (by decide) (by decide) ?_
  refine e_next (pc' := 16) rfl rfl ?_
  refine e_getR (pc' := 19) rfl rfl h_x1.o h_x1.a1 ?_
  refine e_iconst (pc' := 20) rfl rfl kc_0 ?_
  refine e_next (pc' := 21) rfl rfl ?_
  refine e_getR (pc' := 24) rfl rfl h_o0.o h_o0.a1 ?_
  refine e_iconst (pc' := 25) rfl rfl kc_0 ?_
  refine e_sipush (pc' := 28) rfl rfl ks_192 ?_
  obtain ⟨s2, t2, n2, hs_s2, hd_s2, hn_s2, h1_s2, h2_s2, h⟩ := h
  refine e_copy s2 t2 n2 (pc' := 31) rfl rfl (Nat.le_of_ble_eq_true rfl) h_x1.k1 h_o0.k1 hs_s2 hd_s2 hn_s2 h1_s2 h2_s2 (by decide) (by decide) ?_
  refine e_next (pc' := 32) rfl rfl ?_
  refine e_getR (pc' := 35) rfl rfl h_x1.o h_x1.a2 ?_
  refine e_iconst (pc' := 36) rfl rfl kc_0 ?_
  refine e_next (pc' := 37) rfl rfl ?_
  refine e_getR (pc' := 40) rfl rfl h_o0.o h_o0.a2 ?_
  refine e_iconst (pc' := 41) rfl rfl kc_0 ?_
  refine e_bipush (pc' := 43) rfl rfl kb_60 ?_
  obtain ⟨s3, t3, n3, hs_s3, hd_s3, hn_s3, h1_s3, h2_s3, h⟩ := h
  refine e_copy s3 t3 n3 (pc' := 46) rfl rfl (Nat.le_of_ble_eq_true rfl) h_x1.k2 h_o0.k2 hs_s3 hd_s3 hn_s3 h1_s3 h2_s3 (by decide) (by decide) ?_
  refine e_next (pc' := 47) rfl rfl ?_
  refine e_next (pc' := 48) rfl rfl ?_
  refine e_getI (pc' := 51) rfl (Or.inl rfl) rfl h_x1.o ?_
  refine e_putI (pc' := 54) rfl rfl h_o0.o ?_
  exact qev_ret rfl rfl h
theorem w81 {d : Nat} {o0 : Nat} {x1 : Int32} {x2 : Int32} {g : qG} {I : qI} {J : qJ} {Q : qQ} (h_o0 : qSta g o0) (h : ((((x1 * (nI 24)) + x2) < 0 → Q (some (.int (nI 0))) g I J) ∧ (¬ ((x1 * (nI 24)) + x2) < 0 → ((((x1 * (nI 24)) + x2) < (nI 192) → ∃ k1, ((x1 * (nI 24)) + x2) = nI k1 ∧ k1 < 192 ∧ Q (some (.int (I (o0 + 2) k1))) g I J) ∧ (¬ ((x1 * (nI 24)) + x2) < (nI 192) → Q (some (.int (nI 0))) g I J))))) : qC d 81 [.ref o0, .int x1, .int x2] g I J Q := by
  show qev d 81 (0, [.ref o0, .int x1, .int x2, qpad], [], g, I, J) Q
  refine e_next (pc' := 1) rfl rfl ?_
  refine e_bipush (pc' := 3) rfl rfl kb_24 ?_
  refine e_next (pc' := 4) rfl rfl ?_
  refine e_next (pc' := 5) rfl rfl ?_
  refine e_next (pc' := 6) rfl rfl ?_
  refine e_next (pc' := 7) (ls' := [_, _, _, _]) rfl rfl ?_
  refine e_next (pc' := 8) rfl rfl ?_
  refine e_if (((x1 * (nI 24)) + x2) < 0) (pc' := 11) rfl rfl e_d (fun hc => ?_) (fun hc => ?_)
  · replace h := h.1 hc
    refine e_iconst (pc' := 21) rfl rfl kc_0 ?_
    refine e_next (pc' := 30) rfl rfl ?_
    exact e_iret rfl h
  · replace h := h.2 hc
    refine e_next (pc' := 12) rfl rfl ?_
    refine e_next (pc' := 13) rfl rfl ?_
    refine e_getR (pc' := 16) rfl rfl h_o0.o h_o0.a1 ?_
    refine e_alen (pc' := 17) rfl rfl h_o0.k1 rfl rfl ?_
    refine e_icmp (((x1 * (nI 24)) + x2) < (nI 192)) (pc' := 20) rfl rfl e_d (fun hc => ?_) (fun hc => ?_)
    · replace h := h.1 hc
      refine e_next (pc' := 25) rfl rfl ?_
      refine e_getR (pc' := 28) rfl rfl h_o0.o h_o0.a1 ?_
      refine e_next (pc' := 29) rfl rfl ?_
      obtain ⟨k1, hi_k1, hj_k1, h⟩ := h
      refine e_iald k1 (pc' := 30) rfl rfl h_o0.k1 hi_k1 hj_k1 (by decide) ?_
      exact e_iret rfl h
    · replace h := h.2 hc
      refine e_iconst (pc' := 21) rfl rfl kc_0 ?_
      refine e_next (pc' := 30) rfl rfl ?_
      exact e_iret rfl h
theorem w82 {d : Nat} {o0 : Nat} {x1 : Int32} {x2 : Nat} {g : qG} {I : qI} {J : qJ} {Q : qQ} (h_o0 : qSta g o0) (h_x2 : qSer g x2) (h : ((x1 < 0 → Q none g (qw I x2 1 (nI 0)) J) ∧ (¬ x1 < 0 → ((x1 < (nI 8) → ∃ s1 t1 n1 : Nat, (x1 * (nI 24)) = nI s1 ∧ (nI 0) = nI t1 ∧ (nI 24) = nI n1 ∧ s1 + n1 ≤ 192 ∧ t1 + n1 ≤ 24 ∧ ∃ k1, x1 = nI k1 ∧ k1 < 8 ∧ Q none g (qw (va_up I (x2 + 1) (va_cpy (I (o0 + 2)) (I (x2 + 1)) s1 t1 n1)) x2 1 ((va_up I (x2 + 1) (va_cpy (I (o0 + 2)) (I (x2 + 1)) s1 t1 n1)) (o0 + 1) k1)) J) ∧ (¬ x1 < (nI 8) → Q none g (qw I x2 1 (nI 0)) J))))) : qC d 82 [.ref o0, .int x1, .ref x2] g I J Q := by
  show qev d 82 (0, [.ref o0, .int x1, .ref x2], [], g, I, J) Q
  refine e_next (pc' := 1) rfl rfl ?_
  refine e_if (x1 < 0) (pc' := 4) rfl rfl e_d (fun hc => ?_) (fun hc => ?_)
  · replace h := h.1 hc
    refine e_next (pc' := 11) rfl rfl ?_
    refine e_iconst (pc' := 12) rfl rfl kc_0 ?_
    refine e_putI (pc' := 15) rfl rfl h_x2.o ?_
    exact qev_ret rfl rfl h
  · replace h := h.2 hc
    refine e_next (pc' := 5) rfl rfl ?_
    refine e_bipush (pc' := 7) rfl rfl kb_8 ?_
    refine e_icmp (x1 < (nI 8)) (pc' := 10) rfl rfl e_d (fun hc => ?_) (fun hc => ?_)
    · replace h := h.1 hc
      refine e_next (pc' := 17) rfl rfl ?_
      refine e_getR (pc' := 20) rfl rfl h_o0.o h_o0.a1 ?_
      refine e_next (pc' := 21) rfl rfl ?_
      refine e_bipush (pc' := 23) rfl rfl kb_24 ?_
      refine e_next (pc' := 24) rfl rfl ?_
      refine e_next (pc' := 25) rfl rfl ?_
      refine e_getR (pc' := 28) rfl rfl h_x2.o h_x2.a0 ?_
      refine e_iconst (pc' := 29) rfl rfl kc_0 ?_
      refine e_bipush (pc' := 31) rfl rfl kb_24 ?_
      obtain ⟨s1, t1, n1, hs_s1, hd_s1, hn_s1, h1_s1, h2_s1, h⟩ := h
      refine e_copy s1 t1 n1 (pc' := 34) rfl rfl (Nat.le_of_ble_eq_true rfl) h_o0.k1 h_x2.k0 hs_s1 hd_s1 hn_s1 h1_s1 h2_s1 (by decide) (by decide) ?_
      refine e_next (pc' := 35) rfl rfl ?_
      refine e_next (pc' := 36) rfl rfl ?_
      refine e_getR (pc' := 39) rfl rfl h_o0.o h_o0.a0 ?_
      refine e_next (pc' := 40) rfl rfl ?_
      obtain ⟨k1, hi_k1, hj_k1, h⟩ := h
      refine e_iald k1 (pc' := 41) rfl rfl h_o0.k0 hi_k1 hj_k1 (by decide) ?_
      refine e_putI (pc' := 44) rfl rfl h_x2.o ?_
      exact qev_ret rfl rfl h
    · replace h := h.2 hc
      refine e_next (pc' := 11) rfl rfl ?_
      refine e_iconst (pc' := 12) rfl rfl kc_0 ?_
      refine e_putI (pc' := 15) rfl rfl h_x2.o ?_
      exact qev_ret rfl rfl h
theorem w83 {d : Nat} {o0 : Nat} {x1 : Int32} {x2 : Nat} {g : qG} {I : qI} {J : qJ} {Q : qQ} (h_o0 : qSta g o0) (h_x2 : qSer g x2) (h : ((x1 < 0 → Q none g I J) ∧ (¬ x1 < 0 → (((nI 8) ≤ x1 → Q none g I J) ∧ (¬ (nI 8) ≤ x1 → ∃ s1 t1 n1 : Nat, (nI 0) = nI s1 ∧ (x1 * (nI 24)) = nI t1 ∧ (nI 24) = nI n1 ∧ s1 + n1 ≤ 24 ∧ t1 + n1 ≤ 192 ∧ ∃ k1, x1 = nI k1 ∧ k1 < 8 ∧ Q none g (qw (va_up I (o0 + 2) (va_cpy (I (x2 + 1)) (I (o0 + 2)) s1 t1 n1)) (o0 + 1) k1 ((va_up I (o0 + 2) (va_cpy (I (x2 + 1)) (I (o0 + 2)) s1 t1 n1)) x2 1)) J))))) : qC d 83 [.ref o0, .int x1, .ref x2] g I J Q := by
  show qev d 83 (0, [.ref o0, .int x1, .ref x2], [], g, I, J) Q
  refine e_next (pc' := 1) rfl rfl ?_
  refine e_if (x1 < 0) (pc' := 4) rfl rfl e_d (fun hc => ?_) (fun hc => ?_)
  · replace h := h.1 hc
    exact qev_ret rfl rfl h
  · replace h := h.2 hc
    refine e_next (pc' := 5) rfl rfl ?_
    refine e_bipush (pc' := 7) rfl rfl kb_8 ?_
    refine e_icmp ((nI 8) ≤ x1) (pc' := 10) rfl rfl e_d (fun hc => ?_) (fun hc => ?_)
    · replace h := h.1 hc
      exact qev_ret rfl rfl h
    · replace h := h.2 hc
      refine e_next (pc' := 11) rfl rfl ?_
      refine e_getR (pc' := 14) rfl rfl h_x2.o h_x2.a0 ?_
      refine e_iconst (pc' := 15) rfl rfl kc_0 ?_
      refine e_next (pc' := 16) rfl rfl ?_
      refine e_getR (pc' := 19) rfl rfl h_o0.o h_o0.a1 ?_
      refine e_next (pc' := 20) rfl rfl ?_
      refine e_bipush (pc' := 22) rfl rfl kb_24 ?_
      refine e_next (pc' := 23) rfl rfl ?_
      refine e_bipush (pc' := 25) rfl rfl kb_24 ?_
      obtain ⟨s1, t1, n1, hs_s1, hd_s1, hn_s1, h1_s1, h2_s1, h⟩ := h
      refine e_copy s1 t1 n1 (pc' := 28) rfl rfl (Nat.le_of_ble_eq_true rfl) h_x2.k0 h_o0.k1 hs_s1 hd_s1 hn_s1 h1_s1 h2_s1 (by decide) (by decide) ?_
      refine e_next (pc' := 29) rfl rfl ?_
      refine e_getR (pc' := 32) rfl rfl h_o0.o h_o0.a0 ?_
      refine e_next (pc' := 33) rfl rfl ?_
      refine e_next (pc' := 34) rfl rfl ?_
      refine e_getI (pc' := 37) rfl (Or.inl rfl) rfl h_x2.o ?_
      obtain ⟨k1, hi_k1, hj_k1, h⟩ := h
      refine e_iast k1 (pc' := 38) rfl rfl h_o0.k0 hi_k1 hj_k1 (by decide) ?_
      exact qev_ret rfl rfl h
theorem w84 {d : Nat} {o0 : Nat} {x1 : Int32} {x2 : Int32} {g : qG} {I : qI} {J : qJ} {Q : qQ} (h_o0 : qSta g o0) (h : ∃ k1, x1 = nI k1 ∧ k1 < 8 ∧ ∃ k2, x2 = nI k2 ∧ k2 < 8 ∧ ∃ k3, x1 = nI k3 ∧ k3 < 8 ∧ ∃ k4, x2 = nI k4 ∧ k4 < 8 ∧ qev d 84 (29, [.ref o0, .int x1, .int x2, .int (I (o0 + 1) k1), .int (nI 0), qpad], [], g, (qw (qw I (o0 + 1) k3 (I (o0 + 1) k2)) (o0 + 1) k4 (I (o0 + 1) k1)), J) Q) : qC d 84 [.ref o0, .int x1, .int x2] g I J Q := by
  show qev d 84 (0, [.ref o0, .int x1, .int x2, qpad, qpad, qpad], [], g, I, J) Q
  refine e_next (pc' := 1) rfl rfl ?_
  refine e_getR (pc' := 4) rfl rfl h_o0.o h_o0.a0 ?_
  refine e_next (pc' := 5) rfl rfl ?_
  obtain ⟨k1, hi_k1, hj_k1, h⟩ := h
  refine e_iald k1 (pc' := 6) rfl rfl h_o0.k0 hi_k1 hj_k1 (by decide) ?_
  refine e_next (pc' := 7) (ls' := [_, _, _, _, _, _]) rfl rfl ?_
  refine e_next (pc' := 8) rfl rfl ?_
  refine e_getR (pc' := 11) rfl rfl h_o0.o h_o0.a0 ?_
  refine e_next (pc' := 12) rfl rfl ?_
  refine e_next (pc' := 13) rfl rfl ?_
  refine e_getR (pc' := 16) rfl rfl h_o0.o h_o0.a0 ?_
  refine e_next (pc' := 17) rfl rfl ?_
  obtain ⟨k2, hi_k2, hj_k2, h⟩ := h
  refine e_iald k2 (pc' := 18) rfl rfl h_o0.k0 hi_k2 hj_k2 (by decide) ?_
  obtain ⟨k3, hi_k3, hj_k3, h⟩ := h
  refine e_iast k3 (pc' := 19) rfl rfl h_o0.k0 hi_k3 hj_k3 (by decide) ?_
  refine e_next (pc' := 20) rfl rfl ?_
  refine e_getR (pc' := 23) rfl rfl h_o0.o h_o0.a0 ?_
  refine e_next (pc' := 24) rfl rfl ?_
  refine e_next (pc' := 25) rfl rfl ?_
  obtain ⟨k4, hi_k4, hj_k4, h⟩ := h
  refine e_iast k4 (pc' := 26) rfl rfl h_o0.k0 hi_k4 hj_k4 (by decide) ?_
  refine e_iconst (pc' := 27) rfl rfl kc_0 ?_
  refine e_next (pc' := 29) (ls' := [_, _, _, _, _, _]) rfl rfl ?_
  exact h
theorem w84_29 {d : Nat} {o0 : Nat} {i1 : Int32} {i2 : Int32} {i3 : Int32} {i4 : Int32} {w5 : Value} {g : qG} {I : qI} {J : qJ} {Q : qQ} (h_o0 : qSta g o0) (h : (((nI 24) ≤ i4 → Q none g I J) ∧ (¬ (nI 24) ≤ i4 → ∃ k1, ((i1 * (nI 24)) + i4) = nI k1 ∧ k1 < 192 ∧ ∃ k2, ((i2 * (nI 24)) + i4) = nI k2 ∧ k2 < 192 ∧ ∃ k3, ((i1 * (nI 24)) + i4) = nI k3 ∧ k3 < 192 ∧ ∃ k4, ((i2 * (nI 24)) + i4) = nI k4 ∧ k4 < 192 ∧ qev d 84 (29, [.ref o0, .int i1, .int i2, .int i3, .int (i4 + (nI 1)), .int (I (o0 + 2) k1)], [], g, (qw (qw I (o0 + 2) k3 (I (o0 + 2) k2)) (o0 + 2) k4 (I (o0 + 2) k1)), J) Q))) : qev d 84 (29, [.ref o0, .int i1, .int i2, .int i3, .int i4, w5], [], g, I, J) Q := by
  refine e_next (pc' := 31) rfl rfl ?_
  refine e_bipush (pc' := 33) rfl rfl kb_24 ?_
  refine e_icmp ((nI 24) ≤ i4) (pc' := 36) rfl rfl e_d (fun hc => ?_) (fun hc => ?_)
  · replace h := h.1 hc
    exact qev_ret rfl rfl h
  · replace h := h.2 hc
    refine e_next (pc' := 37) rfl rfl ?_
    refine e_getR (pc' := 40) rfl rfl h_o0.o h_o0.a1 ?_
    refine e_next (pc' := 41) rfl rfl ?_
    refine e_bipush (pc' := 43) rfl rfl kb_24 ?_
    refine e_next (pc' := 44) rfl rfl ?_
    refine e_next (pc' := 46) rfl rfl ?_
    refine e_next (pc' := 47) rfl rfl ?_
    obtain ⟨k1, hi_k1, hj_k1, h⟩ := h
    refine e_iald k1 (pc' := 48) rfl rfl h_o0.k1 hi_k1 hj_k1 (by decide) ?_
    refine e_next (pc' := 50) (ls' := [_, _, _, _, _, _]) rfl rfl ?_
    refine e_next (pc' := 51) rfl rfl ?_
    refine e_getR (pc' := 54) rfl rfl h_o0.o h_o0.a1 ?_
    refine e_next (pc' := 55) rfl rfl ?_
    refine e_bipush (pc' := 57) rfl rfl kb_24 ?_
    refine e_next (pc' := 58) rfl rfl ?_
    refine e_next (pc' := 60) rfl rfl ?_
    refine e_next (pc' := 61) rfl rfl ?_
    refine e_next (pc' := 62) rfl rfl ?_
    refine e_getR (pc' := 65) rfl rfl h_o0.o h_o0.a1 ?_
    refine e_next (pc' := 66) rfl rfl ?_
    refine e_bipush (pc' := 68) rfl rfl kb_24 ?_
    refine e_next (pc' := 69) rfl rfl ?_
    refine e_next (pc' := 71) rfl rfl ?_
    refine e_next (pc' := 72) rfl rfl ?_
    obtain ⟨k2, hi_k2, hj_k2, h⟩ := h
    refine e_iald k2 (pc' := 73) rfl rfl h_o0.k1 hi_k2 hj_k2 (by decide) ?_
    obtain ⟨k3, hi_k3, hj_k3, h⟩ := h
    refine e_iast k3 (pc' := 74) rfl rfl h_o0.k1 hi_k3 hj_k3 (by decide) ?_
    refine e_next (pc' := 75) rfl rfl ?_
    refine e_getR (pc' := 78) rfl rfl h_o0.o h_o0.a1 ?_
    refine e_next (pc' := 79) rfl rfl ?_
    refine e_bipush (pc' := 81) rfl rfl kb_24 ?_
    refine e_next (pc' := 82) rfl rfl ?_
    refine e_next (pc' := 84) rfl rfl ?_
    refine e_next (pc' := 85) rfl rfl ?_
    refine e_next (pc' := 87) rfl rfl ?_
    obtain ⟨k4, hi_k4, hj_k4, h⟩ := h
    refine e_iast k4 (pc' := 88) rfl rfl h_o0.k1 hi_k4 hj_k4 (by decide) ?_
    refine e_iinc (pc' := 91) (ls' := [_, _, _, _, _, _]) (v := (nI 1)) rfl rfl kc_1 rfl rfl ?_
    refine e_next (pc' := 29) rfl rfl ?_
    exact h
theorem w85 {d : Nat} {o0 : Nat} {x1 : Int32} {x2 : Int32} {g : qG} {I : qI} {J : qJ} {Q : qQ} (h_o0 : qSta g o0) (h : (((I o0 3) = (nI 60) → ∃ s1 t1 n1 : Nat, (nI 1) = nI s1 ∧ (nI 0) = nI t1 ∧ (nI 59) = nI n1 ∧ s1 + n1 ≤ 60 ∧ t1 + n1 ≤ 60 ∧ ∃ k3, x2 = nI k3 ∧ k3 < 8 ∧ ∃ k4, ((qw (va_up I (o0 + 3) (va_cpy (I (o0 + 3)) (I (o0 + 3)) s1 t1 n1)) o0 3 (((va_up I (o0 + 3) (va_cpy (I (o0 + 3)) (I (o0 + 3)) s1 t1 n1)) o0 3) - (nI 1))) o0 3) = nI k4 ∧ k4 < 60 ∧ Q none g (qw (qw (qw (va_up I (o0 + 3) (va_cpy (I (o0 + 3)) (I (o0 + 3)) s1 t1 n1)) o0 3 (((va_up I (o0 + 3) (va_cpy (I (o0 + 3)) (I (o0 + 3)) s1 t1 n1)) o0 3) - (nI 1))) (o0 + 3) k4 (((x1 * (nI 1000)) + (x2 * (nI 100))) + ((qw (va_up I (o0 + 3) (va_cpy (I (o0 + 3)) (I (o0 + 3)) s1 t1 n1)) o0 3 (((va_up I (o0 + 3) (va_cpy (I (o0 + 3)) (I (o0 + 3)) s1 t1 n1)) o0 3) - (nI 1))) (o0 + 1) k3))) o0 3 (((qw (qw (va_up I (o0 + 3) (va_cpy (I (o0 + 3)) (I (o0 + 3)) s1 t1 n1)) o0 3 (((va_up I (o0 + 3) (va_cpy (I (o0 + 3)) (I (o0 + 3)) s1 t1 n1)) o0 3) - (nI 1))) (o0 + 3) k4 (((x1 * (nI 1000)) + (x2 * (nI 100))) + ((qw (va_up I (o0 + 3) (va_cpy (I (o0 + 3)) (I (o0 + 3)) s1 t1 n1)) o0 3 (((va_up I (o0 + 3) (va_cpy (I (o0 + 3)) (I (o0 + 3)) s1 t1 n1)) o0 3) - (nI 1))) (o0 + 1) k3))) o0 3) + (nI 1))) J) ∧ (¬ (I o0 3) = (nI 60) → ∃ k1, x2 = nI k1 ∧ k1 < 8 ∧ ∃ k2, (I o0 3) = nI k2 ∧ k2 < 60 ∧ Q none g (qw (qw I (o0 + 3) k2 (((x1 * (nI 1000)) + (x2 * (nI 100))) + (I (o0 + 1) k1))) o0 3 (((qw I (o0 + 3) k2 (((x1 * (nI 1000)) + (x2 * (nI 100))) + (I (o0 + 1) k1))) o0 3) + (nI 1))) J))) : qC d 85 [.ref o0, .int x1, .int x2] g I J Q := by
  show qev d 85 (0, [.ref o0, .int x1, .int x2], [], g, I, J) Q
  refine e_next (pc' := 1) rfl rfl ?_
  refine e_getI (pc' := 4) rfl (Or.inl rfl) rfl h_o0.o ?_
  refine e_bipush (pc' := 6) rfl rfl kb_60 ?_
  refine e_icmp (¬ (I o0 3) = (nI 60)) (pc' := 9) rfl rfl e_d (fun hc => ?_) (fun hc => ?_)
  · replace h := h.2 hc
    refine e_next (pc' := 35) rfl rfl ?_
    refine e_getR (pc' := 38) rfl rfl h_o0.o h_o0.a2 ?_
    refine e_next (pc' := 39) rfl rfl ?_
    refine e_getI (pc' := 42) rfl (Or.inl rfl) rfl h_o0.o ?_
    refine e_next (pc' := 43) rfl rfl ?_
    refine e_sipush (pc' := 46) rfl rfl ks_1000 ?_
    refine e_next (pc' := 47) rfl rfl ?_
    refine e_next (pc' := 48) rfl rfl ?_
    refine e_bipush (pc' := 50) rfl rfl kb_100 ?_
    refine e_next (pc' := 51) rfl rfl ?_
    refine e_next (pc' := 52) rfl rfl ?_
    refine e_next (pc' := 53) rfl rfl ?_
    refine e_getR (pc' := 56) rfl rfl h_o0.o h_o0.a0 ?_
    refine e_next (pc' := 57) rfl rfl ?_
    obtain ⟨k1, hi_k1, hj_k1, h⟩ := h
    refine e_iald k1 (pc' := 58) rfl rfl h_o0.k0 hi_k1 hj_k1 (by decide) ?_
    refine e_next (pc' := 59) rfl rfl ?_
    obtain ⟨k2, hi_k2, hj_k2, h⟩ := h
    refine e_iast k2 (pc' := 60) rfl rfl h_o0.k2 hi_k2 hj_k2 (by decide) ?_
    refine e_next (pc' := 61) rfl rfl ?_
    refine e_next (pc' := 62) rfl rfl ?_
    refine e_getI (pc' := 65) rfl (Or.inl rfl) rfl h_o0.o ?_
    refine e_iconst (pc' := 66) rfl rfl kc_1 ?_
    refine e_next (pc' := 67) rfl rfl ?_
    refine e_putI (pc' := 70) rfl rfl h_o0.o ?_
    exact qev_ret rfl rfl h
  · replace h := h.1 (Decidable.not_not.mp hc)
    refine e_next (pc' := 10) rfl rfl ?_
    refine e_getR (pc' := 13) rfl rfl h_o0.o h_o0.a2 ?_
    refine e_iconst (pc' := 14) rfl rfl kc_1 ?_
    refine e_next (pc' := 15) rfl rfl ?_
    refine e_getR (pc' := 18) rfl rfl h_o0.o h_o0.a2 ?_
    refine e_iconst (pc' := 19) rfl rfl kc_0 ?_
    refine e_bipush (pc' := 21) rfl rfl kb_59 ?_
    obtain ⟨s1, t1, n1, hs_s1, hd_s1, hn_s1, h1_s1, h2_s1, h⟩ := h
    refine e_copy s1 t1 n1 (pc' := 24) rfl rfl (Nat.le_of_ble_eq_true rfl) h_o0.k2 h_o0.k2 hs_s1 hd_s1 hn_s1 h1_s1 h2_s1 (by decide) (by decide) ?_
    refine e_next (pc' := 25) rfl rfl ?_
    refine e_next (pc' := 26) rfl rfl ?_
    refine e_getI (pc' := 29) rfl (Or.inl rfl) rfl h_o0.o ?_
    refine e_iconst (pc' := 30) rfl rfl kc_1 ?_
    refine e_next (pc' := 31) rfl rfl ?_
    refine e_putI (pc' := 34) rfl rfl h_o0.o ?_
    refine e_next (pc' := 35) rfl rfl ?_
    refine e_getR (pc' := 38) rfl rfl h_o0.o h_o0.a2 ?_
    refine e_next (pc' := 39) rfl rfl ?_
    refine e_getI (pc' := 42) rfl (Or.inl rfl) rfl h_o0.o ?_
    refine e_next (pc' := 43) rfl rfl ?_
    refine e_sipush (pc' := 46) rfl rfl ks_1000 ?_
    refine e_next (pc' := 47) rfl rfl ?_
    refine e_next (pc' := 48) rfl rfl ?_
    refine e_bipush (pc' := 50) rfl rfl kb_100 ?_
    refine e_next (pc' := 51) rfl rfl ?_
    refine e_next (pc' := 52) rfl rfl ?_
    refine e_next (pc' := 53) rfl rfl ?_
    refine e_getR (pc' := 56) rfl rfl h_o0.o h_o0.a0 ?_
    refine e_next (pc' := 57) rfl rfl ?_
    obtain ⟨k3, hi_k3, hj_k3, h⟩ := h
    refine e_iald k3 (pc' := 58) rfl rfl h_o0.k0 hi_k3 hj_k3 (by decide) ?_
    refine e_next (pc' := 59) rfl rfl ?_
    obtain ⟨k4, hi_k4, hj_k4, h⟩ := h
    refine e_iast k4 (pc' := 60) rfl rfl h_o0.k2 hi_k4 hj_k4 (by decide) ?_
    refine e_next (pc' := 61) rfl rfl ?_
    refine e_next (pc' := 62) rfl rfl ?_
    refine e_getI (pc' := 65) rfl (Or.inl rfl) rfl h_o0.o ?_
    refine e_iconst (pc' := 66) rfl rfl kc_1 ?_
    refine e_next (pc' := 67) rfl rfl ?_
    refine e_putI (pc' := 70) rfl rfl h_o0.o ?_
    exact qev_ret rfl rfl h
theorem w86 {d : Nat} {o0 : Nat} {x1 : Int32} {x2 : Int32} {g : qG} {I : qI} {J : qJ} {Q : qQ} (h_o0 : qSta g o0) (h : ((x1 < 0 → Q (some (.int (-1000000))) g I J) ∧ (¬ x1 < 0 → ((x1 < (I o0 3) → ∃ k1, (((I o0 3) - (nI 1)) - x1) = nI k1 ∧ k1 < 60 ∧ ((x2 = nI 0 → Q (some (.int ((I (o0 + 3) k1) / (nI 1000)))) g I J) ∧ (x2 = nI 1 → Q (some (.int (qrem ((I (o0 + 3) k1) / (nI 100)) (nI 10)))) g I J) ∧ (x2 = nI 2 → Q (some (.int (qrem (I (o0 + 3) k1) (nI 100)))) g I J) ∧ (¬ x2 = nI 0 ∧ ¬ x2 = nI 1 ∧ ¬ x2 = nI 2 → Q (some (.int (-1000000))) g I J))) ∧ (¬ x1 < (I o0 3) → Q (some (.int (-1000000))) g I J))))) : qC d 86 [.ref o0, .int x1, .int x2] g I J Q := by
  show qev d 86 (0, [.ref o0, .int x1, .int x2, qpad], [], g, I, J) Q
  refine e_next (pc' := 1) rfl rfl ?_
  refine e_if (x1 < 0) (pc' := 4) rfl rfl e_d (fun hc => ?_) (fun hc => ?_)
  · replace h := h.1 hc
    refine e_ldc (pc' := 14) rfl rfl kn_4293967296 ?_
    exact e_iret rfl h
  · replace h := h.2 hc
    refine e_next (pc' := 5) rfl rfl ?_
    refine e_next (pc' := 6) rfl rfl ?_
    refine e_getI (pc' := 9) rfl (Or.inl rfl) rfl h_o0.o ?_
    refine e_icmp (x1 < (I o0 3)) (pc' := 12) rfl rfl e_d (fun hc => ?_) (fun hc => ?_)
    · replace h := h.1 hc
      refine e_next (pc' := 16) rfl rfl ?_
      refine e_getR (pc' := 19) rfl rfl h_o0.o h_o0.a2 ?_
      refine e_next (pc' := 20) rfl rfl ?_
      refine e_getI (pc' := 23) rfl (Or.inl rfl) rfl h_o0.o ?_
      refine e_iconst (pc' := 24) rfl rfl kc_1 ?_
      refine e_next (pc' := 25) rfl rfl ?_
      refine e_next (pc' := 26) rfl rfl ?_
      refine e_next (pc' := 27) rfl rfl ?_
      obtain ⟨k1, hi_k1, hj_k1, h⟩ := h
      refine e_iald k1 (pc' := 28) rfl rfl h_o0.k2 hi_k1 hj_k1 (by decide) ?_
      refine e_next (pc' := 29) (ls' := [_, _, _, _]) rfl rfl ?_
      refine e_next (pc' := 30) rfl rfl ?_
      by_cases hc0 : x2 = nI 0
      · refine e_tswI (t := 56) 0 rfl hc0 (by decide) (by decide) ?_
        replace h := h.1 hc0
        refine e_next (pc' := 57) rfl rfl ?_
        refine e_sipush (pc' := 60) rfl rfl ks_1000 ?_
        refine e_idiv (pc' := 61) rfl rfl (by decide) ?_
        exact e_iret rfl h
      replace h := h.2
      by_cases hc1 : x2 = nI 1
      · refine e_tswI (t := 62) 1 rfl hc1 (by decide) (by decide) ?_
        replace h := h.1 hc1
        refine e_next (pc' := 63) rfl rfl ?_
        refine e_bipush (pc' := 65) rfl rfl kb_100 ?_
        refine e_idiv (pc' := 66) rfl rfl (by decide) ?_
        refine e_bipush (pc' := 68) rfl rfl kb_10 ?_
        refine e_irem (pc' := 69) rfl rfl (by decide) ?_
        exact e_iret rfl h
      replace h := h.2
      by_cases hc2 : x2 = nI 2
      · refine e_tswI (t := 70) 2 rfl hc2 (by decide) (by decide) ?_
        replace h := h.1 hc2
        refine e_next (pc' := 71) rfl rfl ?_
        refine e_bipush (pc' := 73) rfl rfl kb_100 ?_
        refine e_irem (pc' := 74) rfl rfl (by decide) ?_
        exact e_iret rfl h
      replace h := h.2
      replace h := h ⟨hc0, hc1, hc2⟩
      refine e_tswO (t := 75) (lo := 0) (hi := 2) rfl (fun k h1 h2 => ?_) (by decide) (by decide) ?_
      · rcases (show k = 0 ∨ k = 1 ∨ k = 2 by omega) with rfl | rfl | rfl
        · exact hc0
        · exact hc1
        · exact hc2
      refine e_ldc (pc' := 77) rfl rfl kn_4293967296 ?_
      exact e_iret rfl h
    · replace h := h.2 hc
      refine e_ldc (pc' := 14) rfl rfl kn_4293967296 ?_
      exact e_iret rfl h
theorem w87 {d : Nat} {o0 : Nat} {x1 : Int32} {g : qG} {I : qI} {J : qJ} {Q : qQ} (h_o0 : qSta g o0) (h : qev (d + 1) 87 (2, [.ref o0, .int x1, .int (nI 0)], [], g, I, J) Q) : qC (d + 1) 87 [.ref o0, .int x1] g I J Q := by
  show qev (d + 1) 87 (0, [.ref o0, .int x1, qpad], [], g, I, J) Q
  refine e_iconst (pc' := 1) rfl rfl kc_0 ?_
  refine e_next (pc' := 2) (ls' := [_, _, _]) rfl rfl ?_
  exact h
theorem w87_2 {d : Nat} {o0 : Nat} {i1 : Int32} {i2 : Int32} {g : qG} {I : qI} {J : qJ} {Q : qQ} (h_o0 : qSta g o0) (h : ∃ k1, i1 = nI k1 ∧ k1 < 8 ∧ (((I (o0 + 1) k1) ≤ i2 → Q (some (.int i2)) g I J) ∧ (¬ (I (o0 + 1) k1) ≤ i2 → qC d 81 [.ref o0, .int i1, .int i2] g I J (fun v _ _ _ => ∃ r1, v = some (.int r1) ∧ ((r1 = 0 → qev (d + 1) 87 (2, [.ref o0, .int i1, .int (i2 + (nI 1))], [], g, I, J) Q) ∧ (¬ r1 = 0 → Q (some (.int i2)) g I J)))))) : qev (d + 1) 87 (2, [.ref o0, .int i1, .int i2], [], g, I, J) Q := by
  refine e_next (pc' := 3) rfl rfl ?_
  refine e_next (pc' := 4) rfl rfl ?_
  refine e_getR (pc' := 7) rfl rfl h_o0.o h_o0.a0 ?_
  refine e_next (pc' := 8) rfl rfl ?_
  obtain ⟨k1, hi_k1, hj_k1, h⟩ := h
  refine e_iald k1 (pc' := 9) rfl rfl h_o0.k0 hi_k1 hj_k1 (by decide) ?_
  refine e_icmp ((I (o0 + 1) k1) ≤ i2) (pc' := 12) rfl rfl e_d (fun hc => ?_) (fun hc => ?_)
  · replace h := h.1 hc
    refine e_next (pc' := 28) rfl rfl ?_
    exact e_iret rfl h
  · replace h := h.2 hc
    refine e_next (pc' := 13) rfl rfl ?_
    refine e_next (pc' := 14) rfl rfl ?_
    refine e_next (pc' := 15) rfl rfl ?_
    refine e_cpI (pc' := 18) rfl (e_sV (as := [_, _]) (fun _ => rfl) (Or.inl rfl) rfl h_o0.o rfl rfl (Nat.le_of_ble_eq_true rfl) (Nat.le_of_ble_eq_true rfl) rfl) rfl rfl rfl ?_
    refine qev.mono h (fun v _ _ _ h => ?_)
    obtain ⟨r1, rfl, h⟩ := h
    refine ⟨r1, rfl, ?_⟩
    refine e_if (¬ r1 = 0) (pc' := 21) rfl rfl e_d (fun hc => ?_) (fun hc => ?_)
    · replace h := h.2 hc
      refine e_next (pc' := 28) rfl rfl ?_
      exact e_iret rfl h
    · replace h := h.1 (Decidable.not_not.mp hc)
      refine e_iinc (pc' := 24) (ls' := [_, _, _]) (v := (nI 1)) rfl rfl kc_1 rfl rfl ?_
      refine e_next (pc' := 2) rfl rfl ?_
      exact h
theorem w88 {d : Nat} {o0 : Nat} {g : qG} {I : qI} {J : qJ} {Q : qQ} (h_o0 : qSta g o0) (h : qC d 89 [.ref o0] g I J (fun v _ _ _ => ∃ r1, v = some (.int r1) ∧ qC d 267 [.int r1] g I J (fun v _ _ _ => ∃ r2, v = some (.int r2) ∧ Q (some (.int r2)) g I J))) : qC (d + 1) 88 [.ref o0] g I J Q := by
  show qev (d + 1) 88 (0, [.ref o0], [], g, I, J) Q
  refine e_next (pc' := 1) rfl rfl ?_
  refine e_cpI (pc' := 4) rfl (e_sV (as := []) (fun _ => rfl) (Or.inl rfl) rfl h_o0.o rfl rfl (Nat.le_of_ble_eq_true rfl) (Nat.le_of_ble_eq_true rfl) rfl) rfl rfl rfl ?_
  refine qev.mono h (fun v _ _ _ h => ?_)
  obtain ⟨r1, rfl, h⟩ := h
  refine ⟨r1, rfl, ?_⟩
  refine e_cpI (pc' := 7) rfl (e_sS (as := [_]) (fun _ => rfl) rfl (Nat.le_of_ble_eq_true rfl) rfl rfl (Nat.le_of_ble_eq_true rfl) (Nat.le_of_ble_eq_true rfl) rfl) rfl rfl rfl ?_
  refine qev.mono h (fun v _ _ _ h => ?_)
  obtain ⟨r2, rfl, h⟩ := h
  refine ⟨r2, rfl, ?_⟩
  exact e_iret rfl h
theorem w89 {d : Nat} {o0 : Nat} {g : qG} {I : qI} {J : qJ} {Q : qQ} (h_o0 : qSta g o0) (h : qev d 89 (4, [.ref o0, .int (nI 0), .int (nI 0)], [], g, I, J) Q) : qC d 89 [.ref o0] g I J Q := by
  show qev d 89 (0, [.ref o0, qpad, qpad], [], g, I, J) Q
  refine e_iconst (pc' := 1) rfl rfl kc_0 ?_
  refine e_next (pc' := 2) (ls' := [_, _, _]) rfl rfl ?_
  refine e_iconst (pc' := 3) rfl rfl kc_0 ?_
  refine e_next (pc' := 4) (ls' := [_, _, _]) rfl rfl ?_
  exact h
theorem w89_4 {d : Nat} {o0 : Nat} {i1 : Int32} {i2 : Int32} {g : qG} {I : qI} {J : qJ} {Q : qQ} (h_o0 : qSta g o0) (h : (((nI 8) ≤ i2 → Q (some (.int i1)) g I J) ∧ (¬ (nI 8) ≤ i2 → ∃ k1, i2 = nI k1 ∧ k1 < 8 ∧ (((I (o0 + 1) k1) ≤ 0 → qev d 89 (4, [.ref o0, .int i1, .int (i2 + (nI 1))], [], g, I, J) Q) ∧ (¬ (I (o0 + 1) k1) ≤ 0 → qev d 89 (4, [.ref o0, .int (i1 ||| (qshl (nI 1) i2)), .int (i2 + (nI 1))], [], g, I, J) Q))))) : qev d 89 (4, [.ref o0, .int i1, .int i2], [], g, I, J) Q := by
  refine e_next (pc' := 5) rfl rfl ?_
  refine e_bipush (pc' := 7) rfl rfl kb_8 ?_
  refine e_icmp ((nI 8) ≤ i2) (pc' := 10) rfl rfl e_d (fun hc => ?_) (fun hc => ?_)
  · replace h := h.1 hc
    refine e_next (pc' := 32) rfl rfl ?_
    exact e_iret rfl h
  · replace h := h.2 hc
    refine e_next (pc' := 11) rfl rfl ?_
    refine e_getR (pc' := 14) rfl rfl h_o0.o h_o0.a0 ?_
    refine e_next (pc' := 15) rfl rfl ?_
    obtain ⟨k1, hi_k1, hj_k1, h⟩ := h
    refine e_iald k1 (pc' := 16) rfl rfl h_o0.k0 hi_k1 hj_k1 (by decide) ?_
    refine e_if ((I (o0 + 1) k1) ≤ 0) (pc' := 19) rfl rfl e_d (fun hc => ?_) (fun hc => ?_)
    · replace h := h.1 hc
      refine e_iinc (pc' := 28) (ls' := [_, _, _]) (v := (nI 1)) rfl rfl kc_1 rfl rfl ?_
      refine e_next (pc' := 4) rfl rfl ?_
      exact h
    · replace h := h.2 hc
      refine e_next (pc' := 20) rfl rfl ?_
      refine e_iconst (pc' := 21) rfl rfl kc_1 ?_
      refine e_next (pc' := 22) rfl rfl ?_
      refine e_next (pc' := 23) rfl rfl ?_
      refine e_next (pc' := 24) rfl rfl ?_
      refine e_next (pc' := 25) (ls' := [_, _, _]) rfl rfl ?_
      refine e_iinc (pc' := 28) (ls' := [_, _, _]) (v := (nI 1)) rfl rfl kc_1 rfl rfl ?_
      refine e_next (pc' := 4) rfl rfl ?_
      exact h
theorem w90 {d : Nat} {o0 : Nat} {g : qG} {I : qI} {J : qJ} {Q : qQ} (h_o0 : qSta g o0) (h : qev d 90 (4, [.ref o0, .int (-1), .int (nI 0)], [], g, I, J) Q) : qC d 90 [.ref o0] g I J Q := by
  show qev d 90 (0, [.ref o0, qpad, qpad], [], g, I, J) Q
  refine e_iconst (pc' := 1) rfl rfl kc_m1 ?_
  refine e_next (pc' := 2) (ls' := [_, _, _]) rfl rfl ?_
  refine e_iconst (pc' := 3) rfl rfl kc_0 ?_
  refine e_next (pc' := 4) (ls' := [_, _, _]) rfl rfl ?_
  exact h
theorem w90_4 {d : Nat} {o0 : Nat} {i1 : Int32} {i2 : Int32} {g : qG} {I : qI} {J : qJ} {Q : qQ} (h_o0 : qSta g o0) (h : (((nI 8) ≤ i2 → Q (some (.int i1)) g I J) ∧ (¬ (nI 8) ≤ i2 → ∃ k1, i2 = nI k1 ∧ k1 < 8 ∧ (((I (o0 + 1) k1) ≤ 0 → qev d 90 (4, [.ref o0, .int i1, .int (i2 + (nI 1))], [], g, I, J) Q) ∧ (¬ (I (o0 + 1) k1) ≤ 0 → ((i1 = (-1) → qev d 90 (4, [.ref o0, .int i2, .int (i2 + (nI 1))], [], g, I, J) Q) ∧ (¬ i1 = (-1) → ∃ k2, i2 = nI k2 ∧ k2 < 8 ∧ ∃ k3, i1 = nI k3 ∧ k3 < 8 ∧ (((I (o0 + 1) k2) ≤ (I (o0 + 1) k3) → qev d 90 (4, [.ref o0, .int i1, .int (i2 + (nI 1))], [], g, I, J) Q) ∧ (¬ (I (o0 + 1) k2) ≤ (I (o0 + 1) k3) → qev d 90 (4, [.ref o0, .int i2, .int (i2 + (nI 1))], [], g, I, J) Q))))))))) : qev d 90 (4, [.ref o0, .int i1, .int i2], [], g, I, J) Q := by
  refine e_next (pc' := 5) rfl rfl ?_
  refine e_bipush (pc' := 7) rfl rfl kb_8 ?_
  refine e_icmp ((nI 8) ≤ i2) (pc' := 10) rfl rfl e_d (fun hc => ?_) (fun hc => ?_)
  · replace h := h.1 hc
    refine e_next (pc' := 48) rfl rfl ?_
    exact e_iret rfl h
  · replace h := h.2 hc
    refine e_next (pc' := 11) rfl rfl ?_
    refine e_getR (pc' := 14) rfl rfl h_o0.o h_o0.a0 ?_
    refine e_next (pc' := 15) rfl rfl ?_
    obtain ⟨k1, hi_k1, hj_k1, h⟩ := h
    refine e_iald k1 (pc' := 16) rfl rfl h_o0.k0 hi_k1 hj_k1 (by decide) ?_
    refine e_if ((I (o0 + 1) k1) ≤ 0) (pc' := 19) rfl rfl e_d (fun hc => ?_) (fun hc => ?_)
    · replace h := h.1 hc
      refine e_iinc (pc' := 44) (ls' := [_, _, _]) (v := (nI 1)) rfl rfl kc_1 rfl rfl ?_
      refine e_next (pc' := 4) rfl rfl ?_
      exact h
    · replace h := h.2 hc
      refine e_next (pc' := 20) rfl rfl ?_
      refine e_iconst (pc' := 21) rfl rfl kc_m1 ?_
      refine e_icmp (i1 = (-1)) (pc' := 24) rfl rfl e_d (fun hc => ?_) (fun hc => ?_)
      · replace h := h.1 hc
        refine e_next (pc' := 40) rfl rfl ?_
        refine e_next (pc' := 41) (ls' := [_, _, _]) rfl rfl ?_
        refine e_iinc (pc' := 44) (ls' := [_, _, _]) (v := (nI 1)) rfl rfl kc_1 rfl rfl ?_
        refine e_next (pc' := 4) rfl rfl ?_
        exact h
      · replace h := h.2 hc
        refine e_next (pc' := 25) rfl rfl ?_
        refine e_getR (pc' := 28) rfl rfl h_o0.o h_o0.a0 ?_
        refine e_next (pc' := 29) rfl rfl ?_
        obtain ⟨k2, hi_k2, hj_k2, h⟩ := h
        refine e_iald k2 (pc' := 30) rfl rfl h_o0.k0 hi_k2 hj_k2 (by decide) ?_
        refine e_next (pc' := 31) rfl rfl ?_
        refine e_getR (pc' := 34) rfl rfl h_o0.o h_o0.a0 ?_
        refine e_next (pc' := 35) rfl rfl ?_
        obtain ⟨k3, hi_k3, hj_k3, h⟩ := h
        refine e_iald k3 (pc' := 36) rfl rfl h_o0.k0 hi_k3 hj_k3 (by decide) ?_
        refine e_icmp ((I (o0 + 1) k2) ≤ (I (o0 + 1) k3)) (pc' := 39) rfl rfl e_d (fun hc => ?_) (fun hc => ?_)
        · replace h := h.1 hc
          refine e_iinc (pc' := 44) (ls' := [_, _, _]) (v := (nI 1)) rfl rfl kc_1 rfl rfl ?_
          refine e_next (pc' := 4) rfl rfl ?_
          exact h
        · replace h := h.2 hc
          refine e_next (pc' := 40) rfl rfl ?_
          refine e_next (pc' := 41) (ls' := [_, _, _]) rfl rfl ?_
          refine e_iinc (pc' := 44) (ls' := [_, _, _]) (v := (nI 1)) rfl rfl kc_1 rfl rfl ?_
          refine e_next (pc' := 4) rfl rfl ?_
          exact h
theorem w91 {d : Nat} {o0 : Nat} {g : qG} {I : qI} {J : qJ} {Q : qQ} (h_o0 : qSta g o0) (h : qev (d + 1) 91 (6, [.ref o0, .int (-1), .int (-1), .int (nI 0)], [], g, I, J) Q) : qC (d + 1) 91 [.ref o0] g I J Q := by
  show qev (d + 1) 91 (0, [.ref o0, qpad, qpad, qpad], [], g, I, J) Q
  refine e_iconst (pc' := 1) rfl rfl kc_m1 ?_
  refine e_next (pc' := 2) (ls' := [_, _, _, _]) rfl rfl ?_
  refine e_iconst (pc' := 3) rfl rfl kc_m1 ?_
  refine e_next (pc' := 4) (ls' := [_, _, _, _]) rfl rfl ?_
  refine e_iconst (pc' := 5) rfl rfl kc_0 ?_
  refine e_next (pc' := 6) (ls' := [_, _, _, _]) rfl rfl ?_
  exact h
theorem w91_6 {d : Nat} {o0 : Nat} {i1 : Int32} {i2 : Int32} {i3 : Int32} {g : qG} {I : qI} {J : qJ} {Q : qQ} (h_o0 : qSta g o0) (h : (((nI 8) ≤ i3 → Q (some (.int i1)) g I J) ∧ (¬ (nI 8) ≤ i3 → ∃ k1, i3 = nI k1 ∧ k1 < 8 ∧ (((I (o0 + 1) k1) ≤ 0 → qev (d + 1) 91 (6, [.ref o0, .int i1, .int i2, .int (i3 + (nI 1))], [], g, I, J) Q) ∧ (¬ (I (o0 + 1) k1) ≤ 0 → qC d 87 [.ref o0, .int i3] g I J (fun v _ _ _ => ∃ r1, v = some (.int r1) ∧ ((r1 ≤ i2 → qev (d + 1) 91 (6, [.ref o0, .int i1, .int i2, .int (i3 + (nI 1))], [], g, I, J) Q) ∧ (¬ r1 ≤ i2 → qC d 87 [.ref o0, .int i3] g I J (fun v _ _ _ => ∃ r2, v = some (.int r2) ∧ qev (d + 1) 91 (6, [.ref o0, .int i3, .int r2, .int (i3 + (nI 1))], [], g, I, J) Q))))))))) : qev (d + 1) 91 (6, [.ref o0, .int i1, .int i2, .int i3], [], g, I, J) Q := by
  refine e_next (pc' := 7) rfl rfl ?_
  refine e_bipush (pc' := 9) rfl rfl kb_8 ?_
  refine e_icmp ((nI 8) ≤ i3) (pc' := 12) rfl rfl e_d (fun hc => ?_) (fun hc => ?_)
  · replace h := h.1 hc
    refine e_next (pc' := 45) rfl rfl ?_
    exact e_iret rfl h
  · replace h := h.2 hc
    refine e_next (pc' := 13) rfl rfl ?_
    refine e_getR (pc' := 16) rfl rfl h_o0.o h_o0.a0 ?_
    refine e_next (pc' := 17) rfl rfl ?_
    obtain ⟨k1, hi_k1, hj_k1, h⟩ := h
    refine e_iald k1 (pc' := 18) rfl rfl h_o0.k0 hi_k1 hj_k1 (by decide) ?_
    refine e_if ((I (o0 + 1) k1) ≤ 0) (pc' := 21) rfl rfl e_d (fun hc => ?_) (fun hc => ?_)
    · replace h := h.1 hc
      refine e_iinc (pc' := 41) (ls' := [_, _, _, _]) (v := (nI 1)) rfl rfl kc_1 rfl rfl ?_
      refine e_next (pc' := 6) rfl rfl ?_
      exact h
    · replace h := h.2 hc
      refine e_next (pc' := 22) rfl rfl ?_
      refine e_next (pc' := 23) rfl rfl ?_
      refine e_cpI (pc' := 26) rfl (e_sV (as := [_]) (fun _ => rfl) (Or.inl rfl) rfl h_o0.o rfl rfl (Nat.le_of_ble_eq_true rfl) (Nat.le_of_ble_eq_true rfl) rfl) rfl rfl rfl ?_
      refine qev.mono h (fun v _ _ _ h => ?_)
      obtain ⟨r1, rfl, h⟩ := h
      refine ⟨r1, rfl, ?_⟩
      refine e_next (pc' := 27) rfl rfl ?_
      refine e_icmp (r1 ≤ i2) (pc' := 30) rfl rfl e_d (fun hc => ?_) (fun hc => ?_)
      · replace h := h.1 hc
        refine e_iinc (pc' := 41) (ls' := [_, _, _, _]) (v := (nI 1)) rfl rfl kc_1 rfl rfl ?_
        refine e_next (pc' := 6) rfl rfl ?_
        exact h
      · replace h := h.2 hc
        refine e_next (pc' := 31) rfl rfl ?_
        refine e_next (pc' := 32) (ls' := [_, _, _, _]) rfl rfl ?_
        refine e_next (pc' := 33) rfl rfl ?_
        refine e_next (pc' := 34) rfl rfl ?_
        refine e_cpI (pc' := 37) rfl (e_sV (as := [_]) (fun _ => rfl) (Or.inl rfl) rfl h_o0.o rfl rfl (Nat.le_of_ble_eq_true rfl) (Nat.le_of_ble_eq_true rfl) rfl) rfl rfl rfl ?_
        refine qev.mono h (fun v _ _ _ h => ?_)
        obtain ⟨r2, rfl, h⟩ := h
        refine ⟨r2, rfl, ?_⟩
        refine e_next (pc' := 38) (ls' := [_, _, _, _]) rfl rfl ?_
        refine e_iinc (pc' := 41) (ls' := [_, _, _, _]) (v := (nI 1)) rfl rfl kc_1 rfl rfl ?_
        refine e_next (pc' := 6) rfl rfl ?_
        exact h
theorem w92 {d : Nat} {o0 : Nat} {g : qG} {I : qI} {J : qJ} {Q : qQ} (h_o0 : qSta g o0) (h : qev d 92 (4, [.ref o0, .int (nI 0), .int (nI 0)], [], g, I, J) Q) : qC d 92 [.ref o0] g I J Q := by
  show qev d 92 (0, [.ref o0, qpad, qpad], [], g, I, J) Q
  refine e_iconst (pc' := 1) rfl rfl kc_0 ?_
  refine e_next (pc' := 2) (ls' := [_, _, _]) rfl rfl ?_
  refine e_iconst (pc' := 3) rfl rfl kc_0 ?_
  refine e_next (pc' := 4) (ls' := [_, _, _]) rfl rfl ?_
  exact h
theorem w92_4 {d : Nat} {o0 : Nat} {i1 : Int32} {i2 : Int32} {g : qG} {I : qI} {J : qJ} {Q : qQ} (h_o0 : qSta g o0) (h : (((nI 8) ≤ i2 → Q (some (.int i1)) g I J) ∧ (¬ (nI 8) ≤ i2 → ∃ k1, i2 = nI k1 ∧ k1 < 8 ∧ qev d 92 (4, [.ref o0, .int (i1 + (I (o0 + 1) k1)), .int (i2 + (nI 1))], [], g, I, J) Q))) : qev d 92 (4, [.ref o0, .int i1, .int i2], [], g, I, J) Q := by
  refine e_next (pc' := 5) rfl rfl ?_
  refine e_bipush (pc' := 7) rfl rfl kb_8 ?_
  refine e_icmp ((nI 8) ≤ i2) (pc' := 10) rfl rfl e_d (fun hc => ?_) (fun hc => ?_)
  · replace h := h.1 hc
    refine e_next (pc' := 26) rfl rfl ?_
    exact e_iret rfl h
  · replace h := h.2 hc
    refine e_next (pc' := 11) rfl rfl ?_
    refine e_next (pc' := 12) rfl rfl ?_
    refine e_getR (pc' := 15) rfl rfl h_o0.o h_o0.a0 ?_
    refine e_next (pc' := 16) rfl rfl ?_
    obtain ⟨k1, hi_k1, hj_k1, h⟩ := h
    refine e_iald k1 (pc' := 17) rfl rfl h_o0.k0 hi_k1 hj_k1 (by decide) ?_
    refine e_next (pc' := 18) rfl rfl ?_
    refine e_next (pc' := 19) (ls' := [_, _, _]) rfl rfl ?_
    refine e_iinc (pc' := 22) (ls' := [_, _, _]) (v := (nI 1)) rfl rfl kc_1 rfl rfl ?_
    refine e_next (pc' := 4) rfl rfl ?_
    exact h
theorem w93 {d : Nat} {o0 : Nat} {g : qG} {I : qI} {J : qJ} {Q : qQ} (h_o0 : qSta g o0) (h : qev (d + 1) 93 (4, [.ref o0, .int (nI 0), .int (nI 0), qpad], [], g, I, J) Q) : qC (d + 1) 93 [.ref o0] g I J Q := by
  show qev (d + 1) 93 (0, [.ref o0, qpad, qpad, qpad], [], g, I, J) Q
  refine e_iconst (pc' := 1) rfl rfl kc_0 ?_
  refine e_next (pc' := 2) (ls' := [_, _, _, _]) rfl rfl ?_
  refine e_iconst (pc' := 3) rfl rfl kc_0 ?_
  refine e_next (pc' := 4) (ls' := [_, _, _, _]) rfl rfl ?_
  exact h
theorem w93_4 {d : Nat} {o0 : Nat} {i1 : Int32} {i2 : Int32} {w3 : Value} {g : qG} {I : qI} {J : qJ} {Q : qQ} (h_o0 : qSta g o0) (h : (((nI 8) ≤ i2 → Q (some (.int i1)) g I J) ∧ (¬ (nI 8) ≤ i2 → qev (d + 1) 93 (12, [.ref o0, .int i1, .int i2, .int (nI 0)], [], g, I, J) Q))) : qev (d + 1) 93 (4, [.ref o0, .int i1, .int i2, w3], [], g, I, J) Q := by
  refine e_next (pc' := 5) rfl rfl ?_
  refine e_bipush (pc' := 7) rfl rfl kb_8 ?_
  refine e_icmp ((nI 8) ≤ i2) (pc' := 10) rfl rfl e_d (fun hc => ?_) (fun hc => ?_)
  · replace h := h.1 hc
    refine e_next (pc' := 47) rfl rfl ?_
    exact e_iret rfl h
  · replace h := h.2 hc
    refine e_iconst (pc' := 11) rfl rfl kc_0 ?_
    refine e_next (pc' := 12) (ls' := [_, _, _, _]) rfl rfl ?_
    exact h
theorem w93_12 {d : Nat} {o0 : Nat} {i1 : Int32} {i2 : Int32} {i3 : Int32} {g : qG} {I : qI} {J : qJ} {Q : qQ} (h_o0 : qSta g o0) (h : ∃ k1, i2 = nI k1 ∧ k1 < 8 ∧ (((I (o0 + 1) k1) ≤ i3 → qev (d + 1) 93 (4, [.ref o0, .int i1, .int (i2 + (nI 1)), .int i3], [], g, I, J) Q) ∧ (¬ (I (o0 + 1) k1) ≤ i3 → qC d 81 [.ref o0, .int i2, .int i3] g I J (fun v _ _ _ => ∃ r1, v = some (.int r1) ∧ ((r1 = 0 → qev (d + 1) 93 (12, [.ref o0, .int i1, .int i2, .int (i3 + (nI 1))], [], g, I, J) Q) ∧ (¬ r1 = 0 → qev (d + 1) 93 (12, [.ref o0, .int (i1 + (nI 1)), .int i2, .int (i3 + (nI 1))], [], g, I, J) Q)))))) : qev (d + 1) 93 (12, [.ref o0, .int i1, .int i2, .int i3], [], g, I, J) Q := by
  refine e_next (pc' := 13) rfl rfl ?_
  refine e_next (pc' := 14) rfl rfl ?_
  refine e_getR (pc' := 17) rfl rfl h_o0.o h_o0.a0 ?_
  refine e_next (pc' := 18) rfl rfl ?_
  obtain ⟨k1, hi_k1, hj_k1, h⟩ := h
  refine e_iald k1 (pc' := 19) rfl rfl h_o0.k0 hi_k1 hj_k1 (by decide) ?_
  refine e_icmp ((I (o0 + 1) k1) ≤ i3) (pc' := 22) rfl rfl e_d (fun hc => ?_) (fun hc => ?_)
  · replace h := h.1 hc
    refine e_iinc (pc' := 43) (ls' := [_, _, _, _]) (v := (nI 1)) rfl rfl kc_1 rfl rfl ?_
    refine e_next (pc' := 4) rfl rfl ?_
    exact h
  · replace h := h.2 hc
    refine e_next (pc' := 23) rfl rfl ?_
    refine e_next (pc' := 24) rfl rfl ?_
    refine e_next (pc' := 25) rfl rfl ?_
    refine e_cpI (pc' := 28) rfl (e_sV (as := [_, _]) (fun _ => rfl) (Or.inl rfl) rfl h_o0.o rfl rfl (Nat.le_of_ble_eq_true rfl) (Nat.le_of_ble_eq_true rfl) rfl) rfl rfl rfl ?_
    refine qev.mono h (fun v _ _ _ h => ?_)
    obtain ⟨r1, rfl, h⟩ := h
    refine ⟨r1, rfl, ?_⟩
    refine e_if (r1 = 0) (pc' := 31) rfl rfl e_d (fun hc => ?_) (fun hc => ?_)
    · replace h := h.1 hc
      refine e_iinc (pc' := 37) (ls' := [_, _, _, _]) (v := (nI 1)) rfl rfl kc_1 rfl rfl ?_
      refine e_next (pc' := 12) rfl rfl ?_
      exact h
    · replace h := h.2 hc
      refine e_iinc (pc' := 34) (ls' := [_, _, _, _]) (v := (nI 1)) rfl rfl kc_1 rfl rfl ?_
      refine e_iinc (pc' := 37) (ls' := [_, _, _, _]) (v := (nI 1)) rfl rfl kc_1 rfl rfl ?_
      refine e_next (pc' := 12) rfl rfl ?_
      exact h
theorem w94 {d : Nat} {o0 : Nat} {g : qG} {I : qI} {J : qJ} {Q : qQ} (h_o0 : qSta g o0) (h : qev (d + 1) 94 (4, [.ref o0, .int (nI 0), .int (nI 0), qpad], [], g, I, J) Q) : qC (d + 1) 94 [.ref o0] g I J Q := by
  show qev (d + 1) 94 (0, [.ref o0, qpad, qpad, qpad], [], g, I, J) Q
  refine e_iconst (pc' := 1) rfl rfl kc_0 ?_
  refine e_next (pc' := 2) (ls' := [_, _, _, _]) rfl rfl ?_
  refine e_iconst (pc' := 3) rfl rfl kc_0 ?_
  refine e_next (pc' := 4) (ls' := [_, _, _, _]) rfl rfl ?_
  exact h
theorem w94_4 {d : Nat} {o0 : Nat} {i1 : Int32} {i2 : Int32} {w3 : Value} {g : qG} {I : qI} {J : qJ} {Q : qQ} (h_o0 : qSta g o0) (h : (((nI 8) ≤ i2 → Q (some (.int i1)) g I J) ∧ (¬ (nI 8) ≤ i2 → qev (d + 1) 94 (12, [.ref o0, .int i1, .int i2, .int (nI 0)], [], g, I, J) Q))) : qev (d + 1) 94 (4, [.ref o0, .int i1, .int i2, w3], [], g, I, J) Q := by
  refine e_next (pc' := 5) rfl rfl ?_
  refine e_bipush (pc' := 7) rfl rfl kb_8 ?_
  refine e_icmp ((nI 8) ≤ i2) (pc' := 10) rfl rfl e_d (fun hc => ?_) (fun hc => ?_)
  · replace h := h.1 hc
    refine e_next (pc' := 46) rfl rfl ?_
    exact e_iret rfl h
  · replace h := h.2 hc
    refine e_iconst (pc' := 11) rfl rfl kc_0 ?_
    refine e_next (pc' := 12) (ls' := [_, _, _, _]) rfl rfl ?_
    exact h
theorem w94_12 {d : Nat} {o0 : Nat} {i1 : Int32} {i2 : Int32} {i3 : Int32} {g : qG} {I : qI} {J : qJ} {Q : qQ} (h_o0 : qSta g o0) (h : ∃ k1, i2 = nI k1 ∧ k1 < 8 ∧ (((I (o0 + 1) k1) ≤ i3 → qev (d + 1) 94 (4, [.ref o0, .int i1, .int (i2 + (nI 1)), .int i3], [], g, I, J) Q) ∧ (¬ (I (o0 + 1) k1) ≤ i3 → qC d 81 [.ref o0, .int i2, .int i3] g I J (fun v _ _ _ => ∃ r1, v = some (.int r1) ∧ qev (d + 1) 94 (12, [.ref o0, .int (qmax i1 r1), .int i2, .int (i3 + (nI 1))], [], g, I, J) Q)))) : qev (d + 1) 94 (12, [.ref o0, .int i1, .int i2, .int i3], [], g, I, J) Q := by
  refine e_next (pc' := 13) rfl rfl ?_
  refine e_next (pc' := 14) rfl rfl ?_
  refine e_getR (pc' := 17) rfl rfl h_o0.o h_o0.a0 ?_
  refine e_next (pc' := 18) rfl rfl ?_
  obtain ⟨k1, hi_k1, hj_k1, h⟩ := h
  refine e_iald k1 (pc' := 19) rfl rfl h_o0.k0 hi_k1 hj_k1 (by decide) ?_
  refine e_icmp ((I (o0 + 1) k1) ≤ i3) (pc' := 22) rfl rfl e_d (fun hc => ?_) (fun hc => ?_)
  · replace h := h.1 hc
    refine e_iinc (pc' := 42) (ls' := [_, _, _, _]) (v := (nI 1)) rfl rfl kc_1 rfl rfl ?_
    refine e_next (pc' := 4) rfl rfl ?_
    exact h
  · replace h := h.2 hc
    refine e_next (pc' := 23) rfl rfl ?_
    refine e_next (pc' := 24) rfl rfl ?_
    refine e_next (pc' := 25) rfl rfl ?_
    refine e_next (pc' := 26) rfl rfl ?_
    refine e_cpI (pc' := 29) rfl (e_sV (as := [_, _]) (fun _ => rfl) (Or.inl rfl) rfl h_o0.o rfl rfl (Nat.le_of_ble_eq_true rfl) (Nat.le_of_ble_eq_true rfl) rfl) rfl rfl rfl ?_
    refine qev.mono h (fun v _ _ _ h => ?_)
    obtain ⟨r1, rfl, h⟩ := h
    refine ⟨r1, rfl, ?_⟩
    refine e_max (pc' := 32) rfl rfl (Nat.le_of_ble_eq_true rfl) ?_
    refine e_next (pc' := 33) (ls' := [_, _, _, _]) rfl rfl ?_
    refine e_iinc (pc' := 36) (ls' := [_, _, _, _]) (v := (nI 1)) rfl rfl kc_1 rfl rfl ?_
    refine e_next (pc' := 12) rfl rfl ?_
    exact h
theorem w95 {d : Nat} {o0 : Nat} {g : qG} {I : qI} {J : qJ} {Q : qQ} (h_o0 : qSta g o0) (h : qev (d + 1) 95 (4, [.ref o0, .int (nI 0), .int (nI 0)], [], g, I, J) Q) : qC (d + 1) 95 [.ref o0] g I J Q := by
  show qev (d + 1) 95 (0, [.ref o0, qpad, qpad], [], g, I, J) Q
  refine e_iconst (pc' := 1) rfl rfl kc_0 ?_
  refine e_next (pc' := 2) (ls' := [_, _, _]) rfl rfl ?_
  refine e_iconst (pc' := 3) rfl rfl kc_0 ?_
  refine e_next (pc' := 4) (ls' := [_, _, _]) rfl rfl ?_
  exact h
theorem w95_4 {d : Nat} {o0 : Nat} {i1 : Int32} {i2 : Int32} {g : qG} {I : qI} {J : qJ} {Q : qQ} (h_o0 : qSta g o0) (h : (((nI 8) ≤ i2 → Q (some (.int i1)) g I J) ∧ (¬ (nI 8) ≤ i2 → ∃ k1, i2 = nI k1 ∧ k1 < 8 ∧ (((I (o0 + 1) k1) ≤ 0 → qev (d + 1) 95 (4, [.ref o0, .int i1, .int (i2 + (nI 1))], [], g, I, J) Q) ∧ (¬ (I (o0 + 1) k1) ≤ 0 → qC d 81 [.ref o0, .int i2, .int (nI 0)] g I J (fun v _ _ _ => ∃ r1, v = some (.int r1) ∧ ((r1 = 0 → qev (d + 1) 95 (4, [.ref o0, .int (i1 ||| (qshl (nI 1) i2)), .int (i2 + (nI 1))], [], g, I, J) Q) ∧ (¬ r1 = 0 → qev (d + 1) 95 (4, [.ref o0, .int i1, .int (i2 + (nI 1))], [], g, I, J) Q)))))))) : qev (d + 1) 95 (4, [.ref o0, .int i1, .int i2], [], g, I, J) Q := by
  refine e_next (pc' := 5) rfl rfl ?_
  refine e_bipush (pc' := 7) rfl rfl kb_8 ?_
  refine e_icmp ((nI 8) ≤ i2) (pc' := 10) rfl rfl e_d (fun hc => ?_) (fun hc => ?_)
  · replace h := h.1 hc
    refine e_next (pc' := 41) rfl rfl ?_
    exact e_iret rfl h
  · replace h := h.2 hc
    refine e_next (pc' := 11) rfl rfl ?_
    refine e_getR (pc' := 14) rfl rfl h_o0.o h_o0.a0 ?_
    refine e_next (pc' := 15) rfl rfl ?_
    obtain ⟨k1, hi_k1, hj_k1, h⟩ := h
    refine e_iald k1 (pc' := 16) rfl rfl h_o0.k0 hi_k1 hj_k1 (by decide) ?_
    refine e_if ((I (o0 + 1) k1) ≤ 0) (pc' := 19) rfl rfl e_d (fun hc => ?_) (fun hc => ?_)
    · replace h := h.1 hc
      refine e_iinc (pc' := 37) (ls' := [_, _, _]) (v := (nI 1)) rfl rfl kc_1 rfl rfl ?_
      refine e_next (pc' := 4) rfl rfl ?_
      exact h
    · replace h := h.2 hc
      refine e_next (pc' := 20) rfl rfl ?_
      refine e_next (pc' := 21) rfl rfl ?_
      refine e_iconst (pc' := 22) rfl rfl kc_0 ?_
      refine e_cpI (pc' := 25) rfl (e_sV (as := [_, _]) (fun _ => rfl) (Or.inl rfl) rfl h_o0.o rfl rfl (Nat.le_of_ble_eq_true rfl) (Nat.le_of_ble_eq_true rfl) rfl) rfl rfl rfl ?_
      refine qev.mono h (fun v _ _ _ h => ?_)
      obtain ⟨r1, rfl, h⟩ := h
      refine ⟨r1, rfl, ?_⟩
      refine e_if (¬ r1 = 0) (pc' := 28) rfl rfl e_d (fun hc => ?_) (fun hc => ?_)
      · replace h := h.2 hc
        refine e_iinc (pc' := 37) (ls' := [_, _, _]) (v := (nI 1)) rfl rfl kc_1 rfl rfl ?_
        refine e_next (pc' := 4) rfl rfl ?_
        exact h
      · replace h := h.1 (Decidable.not_not.mp hc)
        refine e_next (pc' := 29) rfl rfl ?_
        refine e_iconst (pc' := 30) rfl rfl kc_1 ?_
        refine e_next (pc' := 31) rfl rfl ?_
        refine e_next (pc' := 32) rfl rfl ?_
        refine e_next (pc' := 33) rfl rfl ?_
        refine e_next (pc' := 34) (ls' := [_, _, _]) rfl rfl ?_
        refine e_iinc (pc' := 37) (ls' := [_, _, _]) (v := (nI 1)) rfl rfl kc_1 rfl rfl ?_
        refine e_next (pc' := 4) rfl rfl ?_
        exact h
theorem w97 {d : Nat} {x1 : Int32} {g : qG} {I : qI} {J : qJ} {Q : qQ}  (h : qev d 97 (3, [.ref 5, .int x1, .int (nI 24), qpad], [], g, I, J) Q) : qC d 97 [.ref 5, .int x1] g I J Q := by
  show qev d 97 (0, [.ref 5, .int x1, qpad, qpad], [], g, I, J) Q
  refine e_bipush (pc' := 2) rfl rfl kb_24 ?_
  refine e_next (pc' := 3) (ls' := [_, _, _, _]) rfl rfl ?_
  exact h
theorem w97_3 {d : Nat} {i1 : Int32} {i2 : Int32} {w3 : Value} {g : qG} {I : qI} {J : qJ} {Q : qQ} (hs : qSh g)  (h : ((i2 < 0 → Q none g I J) ∧ (¬ i2 < 0 → ((((qushr i1 i2) &&& (nI 255)) = 0 → qev d 97 (3, [.ref 5, .int i1, .int (i2 + (-8)), .int ((qushr i1 i2) &&& (nI 255))], [], g, I, J) Q) ∧ (¬ ((qushr i1 i2) &&& (nI 255)) = 0 → (((nI 320) ≤ (I 5 1) → qev d 97 (3, [.ref 5, .int i1, .int (i2 + (-8)), .int ((qushr i1 i2) &&& (nI 255))], [], g, I, J) Q) ∧ (¬ (nI 320) ≤ (I 5 1) → ∃ k1, (I 5 1) = nI k1 ∧ k1 < 320 ∧ qev d 97 (3, [.ref 5, .int i1, .int (i2 + (-8)), .int ((qushr i1 i2) &&& (nI 255))], [], g, (qw (qw I 6 k1 ((qushr i1 i2) &&& (nI 255))) 5 1 (((qw I 6 k1 ((qushr i1 i2) &&& (nI 255))) 5 1) + (nI 1))), J) Q))))))) : qev d 97 (3, [.ref 5, .int i1, .int i2, w3], [], g, I, J) Q := by
  refine e_next (pc' := 4) rfl rfl ?_
  refine e_if (i2 < 0) (pc' := 7) rfl rfl e_d (fun hc => ?_) (fun hc => ?_)
  · replace h := h.1 hc
    exact qev_ret rfl rfl h
  · replace h := h.2 hc
    refine e_next (pc' := 8) rfl rfl ?_
    refine e_next (pc' := 9) rfl rfl ?_
    refine e_next (pc' := 10) rfl rfl ?_
    refine e_sipush (pc' := 13) rfl rfl ks_255 ?_
    refine e_next (pc' := 14) rfl rfl ?_
    refine e_next (pc' := 15) (ls' := [_, _, _, _]) rfl rfl ?_
    refine e_next (pc' := 16) rfl rfl ?_
    refine e_if (((qushr i1 i2) &&& (nI 255)) = 0) (pc' := 19) rfl rfl e_d (fun hc => ?_) (fun hc => ?_)
    · replace h := h.1 hc
      refine e_iinc (pc' := 52) (ls' := [_, _, _, _]) (v := (-8)) rfl rfl kc_m8 rfl rfl ?_
      refine e_next (pc' := 3) rfl rfl ?_
      exact h
    · replace h := h.2 hc
      refine e_next (pc' := 20) rfl rfl ?_
      refine e_getI (pc' := 23) rfl (Or.inl rfl) rfl (hs.o rfl) ?_
      refine e_sipush (pc' := 26) rfl rfl ks_320 ?_
      refine e_icmp ((nI 320) ≤ (I 5 1)) (pc' := 29) rfl rfl e_d (fun hc => ?_) (fun hc => ?_)
      · replace h := h.1 hc
        refine e_iinc (pc' := 52) (ls' := [_, _, _, _]) (v := (-8)) rfl rfl kc_m8 rfl rfl ?_
        refine e_next (pc' := 3) rfl rfl ?_
        exact h
      · replace h := h.2 hc
        refine e_next (pc' := 30) rfl rfl ?_
        refine e_getR (pc' := 33) rfl rfl (hs.o rfl) (hs.a rfl) ?_
        refine e_next (pc' := 34) rfl rfl ?_
        refine e_getI (pc' := 37) rfl (Or.inl rfl) rfl (hs.o rfl) ?_
        refine e_next (pc' := 38) rfl rfl ?_
        obtain ⟨k1, hi_k1, hj_k1, h⟩ := h
        refine e_iast k1 (pc' := 39) rfl rfl (hs.k rfl) hi_k1 hj_k1 (by decide) ?_
        refine e_next (pc' := 40) rfl rfl ?_
        refine e_next (pc' := 41) rfl rfl ?_
        refine e_getI (pc' := 44) rfl (Or.inl rfl) rfl (hs.o rfl) ?_
        refine e_iconst (pc' := 45) rfl rfl kc_1 ?_
        refine e_next (pc' := 46) rfl rfl ?_
        refine e_putI (pc' := 49) rfl rfl (hs.o rfl) ?_
        refine e_iinc (pc' := 52) (ls' := [_, _, _, _]) (v := (-8)) rfl rfl kc_m8 rfl rfl ?_
        refine e_next (pc' := 3) rfl rfl ?_
        exact h
theorem w99 {d : Nat} {x1 : Int32} {x2 : Int32} {x3 : Int32} {x4 : Int32} {x5 : Int32} {g : qG} {I : qI} {J : qJ} {Q : qQ} (hs : qSh g)  (h : qC d 132 [.int x1] g I J (fun v _ _ _ => ∃ r1, v = some (.int r1) ∧ qC d 132 [.int x2] g I J (fun v _ _ _ => ∃ r2, v = some (.int r2) ∧ qC d 132 [.int x3] g I J (fun v _ _ _ => ∃ r3, v = some (.int r3) ∧ qC d 132 [.int x4] g I J (fun v _ _ _ => ∃ r4, v = some (.int r4) ∧ qC d 132 [.int x5] g I J (fun v _ _ _ => ∃ r5, v = some (.int r5) ∧ ((((I 5 1) + ((((r1 + r2) + r3) + r4) + r5)) ≤ (nI 320) → qC d 97 [.ref 5, .int x1] g I J (fun v _ I1 _ => v = none ∧ qC d 97 [.ref 5, .int x2] g I1 J (fun v _ I2 _ => v = none ∧ qC d 97 [.ref 5, .int x3] g I2 J (fun v _ I3 _ => v = none ∧ qC d 97 [.ref 5, .int x4] g I3 J (fun v _ I4 _ => v = none ∧ qC d 97 [.ref 5, .int x5] g I4 J (fun v _ I5 _ => v = none ∧ Q (some (.int (I5 5 1))) g I5 J)))))) ∧ (¬ ((I 5 1) + ((((r1 + r2) + r3) + r4) + r5)) ≤ (nI 320) → Q (some (.int (-1))) g I J)))))))) : qC (d + 1) 99 [.ref 4, .int x1, .int x2, .int x3, .int x4, .int x5] g I J Q := by
  show qev (d + 1) 99 (0, [.ref 4, .int x1, .int x2, .int x3, .int x4, .int x5, qpad], [], g, I, J) Q
  refine e_next (pc' := 1) rfl rfl ?_
  refine e_cpI (pc' := 4) rfl (e_sS (as := [_]) (fun _ => rfl) rfl (Nat.le_of_ble_eq_true rfl) rfl rfl (Nat.le_of_ble_eq_true rfl) (Nat.le_of_ble_eq_true rfl) rfl) rfl rfl rfl ?_
  refine qev.mono h (fun v _ _ _ h => ?_)
  obtain ⟨r1, rfl, h⟩ := h
  refine ⟨r1, rfl, ?_⟩
  refine e_next (pc' := 5) rfl rfl ?_
  refine e_cpI (pc' := 8) rfl (e_sS (as := [_]) (fun _ => rfl) rfl (Nat.le_of_ble_eq_true rfl) rfl rfl (Nat.le_of_ble_eq_true rfl) (Nat.le_of_ble_eq_true rfl) rfl) rfl rfl rfl ?_
  refine qev.mono h (fun v _ _ _ h => ?_)
  obtain ⟨r2, rfl, h⟩ := h
  refine ⟨r2, rfl, ?_⟩
  refine e_next (pc' := 9) rfl rfl ?_
  refine e_next (pc' := 10) rfl rfl ?_
  refine e_cpI (pc' := 13) rfl (e_sS (as := [_]) (fun _ => rfl) rfl (Nat.le_of_ble_eq_true rfl) rfl rfl (Nat.le_of_ble_eq_true rfl) (Nat.le_of_ble_eq_true rfl) rfl) rfl rfl rfl ?_
  refine qev.mono h (fun v _ _ _ h => ?_)
  obtain ⟨r3, rfl, h⟩ := h
  refine ⟨r3, rfl, ?_⟩
  refine e_next (pc' := 14) rfl rfl ?_
  refine e_next (pc' := 16) rfl rfl ?_
  refine e_cpI (pc' := 19) rfl (e_sS (as := [_]) (fun _ => rfl) rfl (Nat.le_of_ble_eq_true rfl) rfl rfl (Nat.le_of_ble_eq_true rfl) (Nat.le_of_ble_eq_true rfl) rfl) rfl rfl rfl ?_
  refine qev.mono h (fun v _ _ _ h => ?_)
  obtain ⟨r4, rfl, h⟩ := h
  refine ⟨r4, rfl, ?_⟩
  refine e_next (pc' := 20) rfl rfl ?_
  refine e_next (pc' := 22) rfl rfl ?_
  refine e_cpI (pc' := 25) rfl (e_sS (as := [_]) (fun _ => rfl) rfl (Nat.le_of_ble_eq_true rfl) rfl rfl (Nat.le_of_ble_eq_true rfl) (Nat.le_of_ble_eq_true rfl) rfl) rfl rfl rfl ?_
  refine qev.mono h (fun v _ _ _ h => ?_)
  obtain ⟨r5, rfl, h⟩ := h
  refine ⟨r5, rfl, ?_⟩
  refine e_next (pc' := 26) rfl rfl ?_
  refine e_next (pc' := 28) (ls' := [_, _, _, _, _, _, _]) rfl rfl ?_
  refine e_next (pc' := 29) rfl rfl ?_
  refine e_getR (pc' := 32) rfl rfl (hs.o rfl) (hs.a rfl) ?_
  refine e_getI (pc' := 35) rfl (Or.inl rfl) rfl (hs.o rfl) ?_
  refine e_next (pc' := 37) rfl rfl ?_
  refine e_next (pc' := 38) rfl rfl ?_
  refine e_sipush (pc' := 41) rfl rfl ks_320 ?_
  refine e_icmp (((I 5 1) + ((((r1 + r2) + r3) + r4) + r5)) ≤ (nI 320)) (pc' := 44) rfl rfl e_d (fun hc => ?_) (fun hc => ?_)
  · replace h := h.1 hc
    refine e_next (pc' := 47) rfl rfl ?_
    refine e_getR (pc' := 50) rfl rfl (hs.o rfl) (hs.a rfl) ?_
    refine e_next (pc' := 51) rfl rfl ?_
    refine e_ciV (pc' := 54) rfl (e_sV (as := [_]) (fun _ => rfl) (Or.inl rfl) rfl (hs.o rfl) rfl rfl (Nat.le_of_ble_eq_true rfl) (Nat.le_of_ble_eq_true rfl) rfl) rfl rfl ?_
    refine qev.mono h (fun v _ I1 _ h => ?_)
    obtain ⟨rfl, h⟩ := h
    refine ⟨rfl, ?_⟩
    refine e_next (pc' := 55) rfl rfl ?_
    refine e_getR (pc' := 58) rfl rfl (hs.o rfl) (hs.a rfl) ?_
    refine e_next (pc' := 59) rfl rfl ?_
    refine e_ciV (pc' := 62) rfl (e_sV (as := [_]) (fun _ => rfl) (Or.inl rfl) rfl (hs.o rfl) rfl rfl (Nat.le_of_ble_eq_true rfl) (Nat.le_of_ble_eq_true rfl) rfl) rfl rfl ?_
    refine qev.mono h (fun v _ I2 _ h => ?_)
    obtain ⟨rfl, h⟩ := h
    refine ⟨rfl, ?_⟩
    refine e_next (pc' := 63) rfl rfl ?_
    refine e_getR (pc' := 66) rfl rfl (hs.o rfl) (hs.a rfl) ?_
    refine e_next (pc' := 67) rfl rfl ?_
    refine e_ciV (pc' := 70) rfl (e_sV (as := [_]) (fun _ => rfl) (Or.inl rfl) rfl (hs.o rfl) rfl rfl (Nat.le_of_ble_eq_true rfl) (Nat.le_of_ble_eq_true rfl) rfl) rfl rfl ?_
    refine qev.mono h (fun v _ I3 _ h => ?_)
    obtain ⟨rfl, h⟩ := h
    refine ⟨rfl, ?_⟩
    refine e_next (pc' := 71) rfl rfl ?_
    refine e_getR (pc' := 74) rfl rfl (hs.o rfl) (hs.a rfl) ?_
    refine e_next (pc' := 76) rfl rfl ?_
    refine e_ciV (pc' := 79) rfl (e_sV (as := [_]) (fun _ => rfl) (Or.inl rfl) rfl (hs.o rfl) rfl rfl (Nat.le_of_ble_eq_true rfl) (Nat.le_of_ble_eq_true rfl) rfl) rfl rfl ?_
    refine qev.mono h (fun v _ I4 _ h => ?_)
    obtain ⟨rfl, h⟩ := h
    refine ⟨rfl, ?_⟩
    refine e_next (pc' := 80) rfl rfl ?_
    refine e_getR (pc' := 83) rfl rfl (hs.o rfl) (hs.a rfl) ?_
    refine e_next (pc' := 85) rfl rfl ?_
    refine e_ciV (pc' := 88) rfl (e_sV (as := [_]) (fun _ => rfl) (Or.inl rfl) rfl (hs.o rfl) rfl rfl (Nat.le_of_ble_eq_true rfl) (Nat.le_of_ble_eq_true rfl) rfl) rfl rfl ?_
    refine qev.mono h (fun v _ I5 _ h => ?_)
    obtain ⟨rfl, h⟩ := h
    refine ⟨rfl, ?_⟩
    refine e_next (pc' := 89) rfl rfl ?_
    refine e_getR (pc' := 92) rfl rfl (hs.o rfl) (hs.a rfl) ?_
    refine e_getI (pc' := 95) rfl (Or.inl rfl) rfl (hs.o rfl) ?_
    exact e_iret rfl h
  · replace h := h.2 hc
    refine e_iconst (pc' := 45) rfl rfl kc_m1 ?_
    exact e_iret rfl h
theorem w100 {d : Nat} {x1 : Int32} {g : qG} {I : qI} {J : qJ} {Q : qQ} (hs : qSh g)  (h : ((x1 < 0 → Q (some (.int (nI 0))) g I J) ∧ (¬ x1 < 0 → ((x1 ≤ (I 5 1) → Q (some (.int (nI 1))) g (qw I 5 1 x1) J) ∧ (¬ x1 ≤ (I 5 1) → Q (some (.int (nI 0))) g I J))))) : qC d 100 [.ref 4, .int x1] g I J Q := by
  show qev d 100 (0, [.ref 4, .int x1], [], g, I, J) Q
  refine e_next (pc' := 1) rfl rfl ?_
  refine e_if (x1 < 0) (pc' := 4) rfl rfl e_d (fun hc => ?_) (fun hc => ?_)
  · replace h := h.1 hc
    refine e_iconst (pc' := 16) rfl rfl kc_0 ?_
    exact e_zret rfl (Or.inl nI_0) h
  · replace h := h.2 hc
    refine e_next (pc' := 5) rfl rfl ?_
    refine e_next (pc' := 6) rfl rfl ?_
    refine e_getR (pc' := 9) rfl rfl (hs.o rfl) (hs.a rfl) ?_
    refine e_getI (pc' := 12) rfl (Or.inl rfl) rfl (hs.o rfl) ?_
    refine e_icmp (x1 ≤ (I 5 1)) (pc' := 15) rfl rfl e_d (fun hc => ?_) (fun hc => ?_)
    · replace h := h.1 hc
      refine e_next (pc' := 18) rfl rfl ?_
      refine e_getR (pc' := 21) rfl rfl (hs.o rfl) (hs.a rfl) ?_
      refine e_next (pc' := 22) rfl rfl ?_
      refine e_putI (pc' := 25) rfl rfl (hs.o rfl) ?_
      refine e_iconst (pc' := 26) rfl rfl kc_1 ?_
      exact e_zret rfl (Or.inr nI_one) h
    · replace h := h.2 hc
      refine e_iconst (pc' := 16) rfl rfl kc_0 ?_
      exact e_zret rfl (Or.inl nI_0) h
theorem w101 {d : Nat} {x1 : Int32} {g : qG} {I : qI} {J : qJ} {Q : qQ} (hs : qSh g)  (h : ((x1 < 0 → Q (some (.int (-2))) g I J) ∧ (¬ x1 < 0 → ((x1 ≤ (nI 2) → qC d 48 [.ref 11, .int x1] g I J (fun v _ I1 _ => ∃ r1, v = some (.int r1) ∧ Q (some (.int r1)) g I1 J)) ∧ (¬ x1 ≤ (nI 2) → Q (some (.int (-2))) g I J))))) : qC (d + 1) 101 [.ref 4, .int x1] g I J Q := by
  show qev (d + 1) 101 (0, [.ref 4, .int x1], [], g, I, J) Q
  refine e_next (pc' := 1) rfl rfl ?_
  refine e_if (x1 < 0) (pc' := 4) rfl rfl e_d (fun hc => ?_) (fun hc => ?_)
  · replace h := h.1 hc
    refine e_bipush (pc' := 11) rfl rfl kb_m2 ?_
    refine e_next (pc' := 22) rfl rfl ?_
    exact e_iret rfl h
  · replace h := h.2 hc
    refine e_next (pc' := 5) rfl rfl ?_
    refine e_iconst (pc' := 6) rfl rfl kc_2 ?_
    refine e_icmp (x1 ≤ (nI 2)) (pc' := 9) rfl rfl e_d (fun hc => ?_) (fun hc => ?_)
    · replace h := h.1 hc
      refine e_next (pc' := 15) rfl rfl ?_
      refine e_getR (pc' := 18) rfl rfl (hs.o rfl) (hs.a rfl) ?_
      refine e_next (pc' := 19) rfl rfl ?_
      refine e_ciI (pc' := 22) rfl (e_sV (as := [_]) (fun _ => rfl) (Or.inl rfl) rfl (hs.o rfl) rfl rfl (Nat.le_of_ble_eq_true rfl) (Nat.le_of_ble_eq_true rfl) rfl) rfl rfl ?_
      refine qev.mono h (fun v _ I1 _ h => ?_)
      obtain ⟨r1, rfl, h⟩ := h
      refine ⟨r1, rfl, ?_⟩
      exact e_iret rfl h
    · replace h := h.2 hc
      refine e_bipush (pc' := 11) rfl rfl kb_m2 ?_
      refine e_next (pc' := 22) rfl rfl ?_
      exact e_iret rfl h
theorem w102 {d : Nat} {x1 : Int32} {g : qG} {I : qI} {J : qJ} {Q : qQ}  (h : ((x1 = 0 → qev (d + 1) 102 (11, [.ref 4, .int x1], [], g, I, J) Q) ∧ (¬ x1 = 0 → ((x1 = (nI 1) → qev (d + 1) 102 (11, [.ref 4, .int x1], [], g, I, J) Q) ∧ (¬ x1 = (nI 1) → Q (some (.int (-1))) g I J))))) : qC (d + 1) 102 [.ref 4, .int x1] g I J Q := by
  show qev (d + 1) 102 (0, [.ref 4, .int x1], [], g, I, J) Q
  refine e_next (pc' := 1) rfl rfl ?_
  refine e_if (x1 = 0) (pc' := 4) rfl rfl e_d (fun hc => ?_) (fun hc => ?_)
  · replace h := h.1 hc
    exact h
  · replace h := h.2 hc
    refine e_next (pc' := 5) rfl rfl ?_
    refine e_iconst (pc' := 6) rfl rfl kc_1 ?_
    refine e_icmp (x1 = (nI 1)) (pc' := 9) rfl rfl e_d (fun hc => ?_) (fun hc => ?_)
    · replace h := h.1 hc
      exact h
    · replace h := h.2 hc
      refine e_iconst (pc' := 10) rfl rfl kc_m1 ?_
      exact e_iret rfl h
theorem w102_11 {d : Nat} {i1 : Int32} {g : qG} {I : qI} {J : qJ} {Q : qQ} (hs : qSh g)  (h : ((i1 = (nI 1) → (((I 4 13) < (nI 4) → qC d 48 [.ref 11, .int i1] g I J (fun v _ I4 _ => ∃ r4, v = some (.int r4) ∧ ((r4 = (-1) → ((i1 = 0 → qC d 133 [.ref 4] g (qw I4 5 1 (nI 0)) J (fun v _ I6 _ => ∃ r6, v = some (.int r6) ∧ Q (some (.int r6)) g I6 J)) ∧ (¬ i1 = 0 → qC d 134 [.ref 4] g (qw I4 5 1 (nI 0)) J (fun v g2 I5 J2 => ∃ r5, v = some (.int r5) ∧ qSh g2 ∧ Q (some (.int r5)) g2 I5 J2)))) ∧ (¬ r4 = (-1) → Q (some (.int (-1))) g I4 J)))) ∧ (¬ (I 4 13) < (nI 4) → Q (some (.int (-1))) g I J))) ∧ (¬ i1 = (nI 1) → qC d 48 [.ref 11, .int i1] g I J (fun v _ I1 _ => ∃ r1, v = some (.int r1) ∧ ((r1 = (-1) → ((i1 = 0 → qC d 133 [.ref 4] g (qw I1 5 1 (nI 0)) J (fun v _ I3 _ => ∃ r3, v = some (.int r3) ∧ Q (some (.int r3)) g I3 J)) ∧ (¬ i1 = 0 → qC d 134 [.ref 4] g (qw I1 5 1 (nI 0)) J (fun v g1 I2 J1 => ∃ r2, v = some (.int r2) ∧ qSh g1 ∧ Q (some (.int r2)) g1 I2 J1)))) ∧ (¬ r1 = (-1) → Q (some (.int (-1))) g I1 J)))))) : qev (d + 1) 102 (11, [.ref 4, .int i1], [], g, I, J) Q := by
  refine e_next (pc' := 12) rfl rfl ?_
  refine e_iconst (pc' := 13) rfl rfl kc_1 ?_
  refine e_icmp (¬ i1 = (nI 1)) (pc' := 16) rfl rfl e_d (fun hc => ?_) (fun hc => ?_)
  · replace h := h.2 hc
    refine e_next (pc' := 27) rfl rfl ?_
    refine e_getR (pc' := 30) rfl rfl (hs.o rfl) (hs.a rfl) ?_
    refine e_next (pc' := 31) rfl rfl ?_
    refine e_ciI (pc' := 34) rfl (e_sV (as := [_]) (fun _ => rfl) (Or.inl rfl) rfl (hs.o rfl) rfl rfl (Nat.le_of_ble_eq_true rfl) (Nat.le_of_ble_eq_true rfl) rfl) rfl rfl ?_
    refine qev.mono h (fun v _ I1 _ h => ?_)
    obtain ⟨r1, rfl, h⟩ := h
    refine ⟨r1, rfl, ?_⟩
    refine e_iconst (pc' := 35) rfl rfl kc_m1 ?_
    refine e_icmp (r1 = (-1)) (pc' := 38) rfl rfl e_d (fun hc => ?_) (fun hc => ?_)
    · replace h := h.1 hc
      refine e_next (pc' := 41) rfl rfl ?_
      refine e_getR (pc' := 44) rfl rfl (hs.o rfl) (hs.a rfl) ?_
      refine e_iconst (pc' := 45) rfl rfl kc_0 ?_
      refine e_putI (pc' := 48) rfl rfl (hs.o rfl) ?_
      refine e_next (pc' := 49) rfl rfl ?_
      refine e_if (¬ i1 = 0) (pc' := 52) rfl rfl e_d (fun hc => ?_) (fun hc => ?_)
      · replace h := h.2 hc
        refine e_next (pc' := 60) rfl rfl ?_
        refine e_cgI (pc' := 63) rfl (e_sV (as := []) (fun _ => rfl) (Or.inl rfl) rfl (hs.o rfl) rfl rfl (Nat.le_of_ble_eq_true rfl) (Nat.le_of_ble_eq_true rfl) rfl) ?_
        refine qev.mono h (fun v g1 I2 J1 h => ?_)
        obtain ⟨r2, rfl, h⟩ := h
        refine ⟨r2, rfl, ?_⟩
        obtain ⟨hs, h⟩ := h
        exact e_iret rfl h
      · replace h := h.1 (Decidable.not_not.mp hc)
        refine e_next (pc' := 53) rfl rfl ?_
        refine e_ciI (pc' := 56) rfl (e_sV (as := []) (fun _ => rfl) (Or.inl rfl) rfl (hs.o rfl) rfl rfl (Nat.le_of_ble_eq_true rfl) (Nat.le_of_ble_eq_true rfl) rfl) rfl rfl ?_
        refine qev.mono h (fun v _ I3 _ h => ?_)
        obtain ⟨r3, rfl, h⟩ := h
        refine ⟨r3, rfl, ?_⟩
        refine e_next (pc' := 63) rfl rfl ?_
        exact e_iret rfl h
    · replace h := h.2 hc
      refine e_iconst (pc' := 39) rfl rfl kc_m1 ?_
      exact e_iret rfl h
  · replace h := h.1 (Decidable.not_not.mp hc)
    refine e_next (pc' := 17) rfl rfl ?_
    refine e_getI (pc' := 20) rfl (Or.inl rfl) rfl (hs.o rfl) ?_
    refine e_iconst (pc' := 21) rfl rfl kc_4 ?_
    refine e_icmp ((I 4 13) < (nI 4)) (pc' := 24) rfl rfl e_d (fun hc => ?_) (fun hc => ?_)
    · replace h := h.1 hc
      refine e_next (pc' := 27) rfl rfl ?_
      refine e_getR (pc' := 30) rfl rfl (hs.o rfl) (hs.a rfl) ?_
      refine e_next (pc' := 31) rfl rfl ?_
      refine e_ciI (pc' := 34) rfl (e_sV (as := [_]) (fun _ => rfl) (Or.inl rfl) rfl (hs.o rfl) rfl rfl (Nat.le_of_ble_eq_true rfl) (Nat.le_of_ble_eq_true rfl) rfl) rfl rfl ?_
      refine qev.mono h (fun v _ I4 _ h => ?_)
      obtain ⟨r4, rfl, h⟩ := h
      refine ⟨r4, rfl, ?_⟩
      refine e_iconst (pc' := 35) rfl rfl kc_m1 ?_
      refine e_icmp (r4 = (-1)) (pc' := 38) rfl rfl e_d (fun hc => ?_) (fun hc => ?_)
      · replace h := h.1 hc
        refine e_next (pc' := 41) rfl rfl ?_
        refine e_getR (pc' := 44) rfl rfl (hs.o rfl) (hs.a rfl) ?_
        refine e_iconst (pc' := 45) rfl rfl kc_0 ?_
        refine e_putI (pc' := 48) rfl rfl (hs.o rfl) ?_
        refine e_next (pc' := 49) rfl rfl ?_
        refine e_if (¬ i1 = 0) (pc' := 52) rfl rfl e_d (fun hc => ?_) (fun hc => ?_)
        · replace h := h.2 hc
          refine e_next (pc' := 60) rfl rfl ?_
          refine e_cgI (pc' := 63) rfl (e_sV (as := []) (fun _ => rfl) (Or.inl rfl) rfl (hs.o rfl) rfl rfl (Nat.le_of_ble_eq_true rfl) (Nat.le_of_ble_eq_true rfl) rfl) ?_
          refine qev.mono h (fun v g2 I5 J2 h => ?_)
          obtain ⟨r5, rfl, h⟩ := h
          refine ⟨r5, rfl, ?_⟩
          obtain ⟨hs, h⟩ := h
          exact e_iret rfl h
        · replace h := h.1 (Decidable.not_not.mp hc)
          refine e_next (pc' := 53) rfl rfl ?_
          refine e_ciI (pc' := 56) rfl (e_sV (as := []) (fun _ => rfl) (Or.inl rfl) rfl (hs.o rfl) rfl rfl (Nat.le_of_ble_eq_true rfl) (Nat.le_of_ble_eq_true rfl) rfl) rfl rfl ?_
          refine qev.mono h (fun v _ I6 _ h => ?_)
          obtain ⟨r6, rfl, h⟩ := h
          refine ⟨r6, rfl, ?_⟩
          refine e_next (pc' := 63) rfl rfl ?_
          exact e_iret rfl h
      · replace h := h.2 hc
        refine e_iconst (pc' := 39) rfl rfl kc_m1 ?_
        exact e_iret rfl h
    · replace h := h.2 hc
      refine e_iconst (pc' := 25) rfl rfl kc_m1 ?_
      exact e_iret rfl h
theorem w103 {d : Nat} {x1 : Int32} {g : qG} {I : qI} {J : qJ} {Q : qQ} (hs : qSh g)  (h : (((I 4 14) = 0 → Q (some (.int (-1))) g I J) ∧ (¬ (I 4 14) = 0 → ((x1 < 0 → Q (some (.int (-1))) g I J) ∧ (¬ x1 < 0 → ((x1 ≤ (nI 1) → ((x1 = 0 → Q (some (.int (I 12 7))) g I J) ∧ (¬ x1 = 0 → Q (some (.int (I 12 8))) g I J))) ∧ (¬ x1 ≤ (nI 1) → Q (some (.int (-1))) g I J))))))) : qC d 103 [.ref 4, .int x1] g I J Q := by
  show qev d 103 (0, [.ref 4, .int x1], [], g, I, J) Q
  refine e_next (pc' := 1) rfl rfl ?_
  refine e_getI (pc' := 4) rfl (Or.inr rfl) rfl (hs.o rfl) ?_
  refine e_if ((I 4 14) = 0) (pc' := 7) rfl rfl e_d (fun hc => ?_) (fun hc => ?_)
  · replace h := h.1 hc
    refine e_iconst (pc' := 17) rfl rfl kc_m1 ?_
    exact e_iret rfl h
  · replace h := h.2 hc
    refine e_next (pc' := 8) rfl rfl ?_
    refine e_if (x1 < 0) (pc' := 11) rfl rfl e_d (fun hc => ?_) (fun hc => ?_)
    · replace h := h.1 hc
      refine e_iconst (pc' := 17) rfl rfl kc_m1 ?_
      exact e_iret rfl h
    · replace h := h.2 hc
      refine e_next (pc' := 12) rfl rfl ?_
      refine e_iconst (pc' := 13) rfl rfl kc_1 ?_
      refine e_icmp (x1 ≤ (nI 1)) (pc' := 16) rfl rfl e_d (fun hc => ?_) (fun hc => ?_)
      · replace h := h.1 hc
        refine e_next (pc' := 19) rfl rfl ?_
        refine e_if (¬ x1 = 0) (pc' := 22) rfl rfl e_d (fun hc => ?_) (fun hc => ?_)
        · replace h := h.2 hc
          refine e_next (pc' := 33) rfl rfl ?_
          refine e_getR (pc' := 36) rfl rfl (hs.o rfl) (hs.a rfl) ?_
          refine e_getI (pc' := 39) rfl (Or.inl rfl) rfl (hs.o rfl) ?_
          exact e_iret rfl h
        · replace h := h.1 (Decidable.not_not.mp hc)
          refine e_next (pc' := 23) rfl rfl ?_
          refine e_getR (pc' := 26) rfl rfl (hs.o rfl) (hs.a rfl) ?_
          refine e_getI (pc' := 29) rfl (Or.inl rfl) rfl (hs.o rfl) ?_
          refine e_next (pc' := 39) rfl rfl ?_
          exact e_iret rfl h
      · replace h := h.2 hc
        refine e_iconst (pc' := 17) rfl rfl kc_m1 ?_
        exact e_iret rfl h
theorem w104 {d : Nat}  {g : qG} {I : qI} {J : qJ} {Q : qQ} (hs : qSh g)  (h : qC d 138 [.ref 4] g I J (fun v _ I1 _ => ∃ r1, v = some (.int r1) ∧ ((r1 = (-1) → qC d 139 [.ref 4, .int ((qw I1 5 1 (nI 0)) 9 0)] g (qw I1 5 1 (nI 0)) J (fun v g1 I2 J1 => ∃ r2, v = some (.int r2) ∧ qSh g1 ∧ Q (some (.int r2)) g1 I2 J1)) ∧ (¬ r1 = (-1) → qC d 137 [.ref 4, .int r1] g I1 J (fun v _ I3 _ => ∃ r3, v = some (.int r3) ∧ Q (some (.int r3)) g I3 J))))) : qC (d + 1) 104 [.ref 4] g I J Q := by
  show qev (d + 1) 104 (0, [.ref 4, qpad], [], g, I, J) Q
  refine e_next (pc' := 1) rfl rfl ?_
  refine e_ciI (pc' := 4) rfl (e_sV (as := []) (fun _ => rfl) (Or.inl rfl) rfl (hs.o rfl) rfl rfl (Nat.le_of_ble_eq_true rfl) (Nat.le_of_ble_eq_true rfl) rfl) rfl rfl ?_
  refine qev.mono h (fun v _ I1 _ h => ?_)
  obtain ⟨r1, rfl, h⟩ := h
  refine ⟨r1, rfl, ?_⟩
  refine e_next (pc' := 5) (ls' := [_, _]) rfl rfl ?_
  refine e_next (pc' := 6) rfl rfl ?_
  refine e_iconst (pc' := 7) rfl rfl kc_m1 ?_
  refine e_icmp (r1 = (-1)) (pc' := 10) rfl rfl e_d (fun hc => ?_) (fun hc => ?_)
  · replace h := h.1 hc
    refine e_next (pc' := 17) rfl rfl ?_
    refine e_getR (pc' := 20) rfl rfl (hs.o rfl) (hs.a rfl) ?_
    refine e_iconst (pc' := 21) rfl rfl kc_0 ?_
    refine e_putI (pc' := 24) rfl rfl (hs.o rfl) ?_
    refine e_next (pc' := 25) rfl rfl ?_
    refine e_next (pc' := 26) rfl rfl ?_
    refine e_getR (pc' := 29) rfl rfl (hs.o rfl) (hs.a rfl) ?_
    refine e_getR (pc' := 32) rfl rfl (hs.o rfl) (hs.a rfl) ?_
    refine e_iconst (pc' := 33) rfl rfl kc_0 ?_
    refine e_iald 0 (pc' := 34) rfl rfl (hs.k rfl) rfl (by decide) (by decide) ?_
    refine e_cgI (pc' := 37) rfl (e_sV (as := [_]) (fun _ => rfl) (Or.inl rfl) rfl (hs.o rfl) rfl rfl (Nat.le_of_ble_eq_true rfl) (Nat.le_of_ble_eq_true rfl) rfl) ?_
    refine qev.mono h (fun v g1 I2 J1 h => ?_)
    obtain ⟨r2, rfl, h⟩ := h
    refine ⟨r2, rfl, ?_⟩
    obtain ⟨hs, h⟩ := h
    exact e_iret rfl h
  · replace h := h.2 hc
    refine e_next (pc' := 11) rfl rfl ?_
    refine e_next (pc' := 12) rfl rfl ?_
    refine e_ciI (pc' := 15) rfl (e_sV (as := [_]) (fun _ => rfl) (Or.inl rfl) rfl (hs.o rfl) rfl rfl (Nat.le_of_ble_eq_true rfl) (Nat.le_of_ble_eq_true rfl) rfl) rfl rfl ?_
    refine qev.mono h (fun v _ I3 _ h => ?_)
    obtain ⟨r3, rfl, h⟩ := h
    refine ⟨r3, rfl, ?_⟩
    exact e_iret rfl h
theorem w105 {d : Nat} {x1 : Int32} {g : qG} {I : qI} {J : qJ} {Q : qQ} (hs : qSh g)  (h : qC d 138 [.ref 4] g I J (fun v _ I1 _ => ∃ r1, v = some (.int r1) ∧ ((r1 = (-1) → qC d 42 [.ref 33] g I1 J (fun v _ _ _ => ∃ r2, v = some (va_rf r2) ∧ ((x1 = (-1) → ∃ b2, r2 = some b2 ∧ qSer g b2 ∧ Q (some (.int (I1 b2 1))) g I1 J) ∧ (¬ x1 = (-1) → ((x1 < 0 → Q (some (.int (-1000000))) g I1 J) ∧ (¬ x1 < 0 → ∃ b1, r2 = some b1 ∧ qSer g b1 ∧ ((x1 < (I1 b1 1) → ∃ k1, x1 = nI k1 ∧ k1 < 24 ∧ Q (some (.int (I1 (b1 + 1) k1))) g I1 J) ∧ (¬ x1 < (I1 b1 1) → Q (some (.int (-1000000))) g I1 J)))))))) ∧ (¬ r1 = (-1) → Q (some (.int (-1000000))) g I1 J)))) : qC (d + 1) 105 [.ref 4, .int x1] g I J Q := by
  show qev (d + 1) 105 (0, [.ref 4, .int x1, qpad], [], g, I, J) Q
  refine e_next (pc' := 1) rfl rfl ?_
  refine e_ciI (pc' := 4) rfl (e_sV (as := []) (fun _ => rfl) (Or.inl rfl) rfl (hs.o rfl) rfl rfl (Nat.le_of_ble_eq_true rfl) (Nat.le_of_ble_eq_true rfl) rfl) rfl rfl ?_
  refine qev.mono h (fun v _ I1 _ h => ?_)
  obtain ⟨r1, rfl, h⟩ := h
  refine ⟨r1, rfl, ?_⟩
  refine e_iconst (pc' := 5) rfl rfl kc_m1 ?_
  refine e_icmp (r1 = (-1)) (pc' := 8) rfl rfl e_d (fun hc => ?_) (fun hc => ?_)
  · replace h := h.1 hc
    refine e_next (pc' := 12) rfl rfl ?_
    refine e_getR (pc' := 15) rfl rfl (hs.o rfl) (hs.a rfl) ?_
    refine e_cpA (pc' := 18) rfl (e_sV (as := []) (fun _ => rfl) (Or.inl rfl) rfl (hs.o rfl) rfl rfl (Nat.le_of_ble_eq_true rfl) (Nat.le_of_ble_eq_true rfl) rfl) rfl rfl rfl ?_
    refine qev.mono h (fun v _ _ _ h => ?_)
    obtain ⟨r2, rfl, h⟩ := h
    refine ⟨r2, rfl, ?_⟩
    refine e_astoreOn (pc' := 19) (ls' := [_, _, va_rf r2]) (x := r2) rfl rfl rfl ?_
    refine e_next (pc' := 20) rfl rfl ?_
    refine e_iconst (pc' := 21) rfl rfl kc_m1 ?_
    refine e_icmp (¬ x1 = (-1)) (pc' := 24) rfl rfl e_d (fun hc => ?_) (fun hc => ?_)
    · replace h := h.2 hc
      refine e_next (pc' := 30) rfl rfl ?_
      refine e_if (x1 < 0) (pc' := 33) rfl rfl e_d (fun hc => ?_) (fun hc => ?_)
      · replace h := h.1 hc
        refine e_ldc (pc' := 43) rfl rfl kn_4293967296 ?_
        refine e_next (pc' := 52) rfl rfl ?_
        exact e_iret rfl h
      · replace h := h.2 hc
        refine e_next (pc' := 34) rfl rfl ?_
        refine e_aloadOn (pc' := 35) (x := r2) rfl rfl rfl ?_
        obtain ⟨b1, hc_b1, h_b1, h⟩ := h
        subst hc_b1
        refine e_getI (pc' := 38) rfl (Or.inl rfl) rfl h_b1.o ?_
        refine e_icmp (x1 < (I1 b1 1)) (pc' := 41) rfl rfl e_d (fun hc => ?_) (fun hc => ?_)
        · replace h := h.1 hc
          refine e_next (pc' := 47) rfl rfl ?_
          refine e_getR (pc' := 50) rfl rfl h_b1.o h_b1.a0 ?_
          refine e_next (pc' := 51) rfl rfl ?_
          obtain ⟨k1, hi_k1, hj_k1, h⟩ := h
          refine e_iald k1 (pc' := 52) rfl rfl h_b1.k0 hi_k1 hj_k1 (by decide) ?_
          exact e_iret rfl h
        · replace h := h.2 hc
          refine e_ldc (pc' := 43) rfl rfl kn_4293967296 ?_
          refine e_next (pc' := 52) rfl rfl ?_
          exact e_iret rfl h
    · replace h := h.1 (Decidable.not_not.mp hc)
      refine e_aloadOn (pc' := 25) (x := r2) rfl rfl rfl ?_
      obtain ⟨b2, hc_b2, h_b2, h⟩ := h
      subst hc_b2
      refine e_getI (pc' := 28) rfl (Or.inl rfl) rfl h_b2.o ?_
      exact e_iret rfl h
  · replace h := h.2 hc
    refine e_ldc (pc' := 10) rfl rfl kn_4293967296 ?_
    exact e_iret rfl h
theorem w106 {d : Nat}  {g : qG} {I : qI} {J : qJ} {Q : qQ} (hs : qSh g)  (h : qC d 138 [.ref 4] g I J (fun v _ I1 _ => ∃ r1, v = some (.int r1) ∧ Q (some (.int r1)) g I1 J)) : qC (d + 1) 106 [.ref 4] g I J Q := by
  show qev (d + 1) 106 (0, [.ref 4], [], g, I, J) Q
  refine e_next (pc' := 1) rfl rfl ?_
  refine e_ciI (pc' := 4) rfl (e_sV (as := []) (fun _ => rfl) (Or.inl rfl) rfl (hs.o rfl) rfl rfl (Nat.le_of_ble_eq_true rfl) (Nat.le_of_ble_eq_true rfl) rfl) rfl rfl ?_
  refine qev.mono h (fun v _ I1 _ h => ?_)
  obtain ⟨r1, rfl, h⟩ := h
  refine ⟨r1, rfl, ?_⟩
  exact e_iret rfl h
theorem w107 {d : Nat} {x1 : Int32} {g : qG} {I : qI} {J : qJ} {Q : qQ} (hs : qSh g)  (h : (((I 4 14) = 0 → Q (some (.int (-1))) g I J) ∧ (¬ (I 4 14) = 0 → ((x1 < 0 → Q (some (.int (-1))) g I J) ∧ (¬ x1 < 0 → ((x1 < (nI 8) → ∃ k1, x1 = nI k1 ∧ k1 < 8 ∧ Q (some (.int (I 90 k1))) g I J) ∧ (¬ x1 < (nI 8) → Q (some (.int (-1))) g I J))))))) : qC d 107 [.ref 4, .int x1] g I J Q := by
  show qev d 107 (0, [.ref 4, .int x1], [], g, I, J) Q
  refine e_next (pc' := 1) rfl rfl ?_
  refine e_getI (pc' := 4) rfl (Or.inr rfl) rfl (hs.o rfl) ?_
  refine e_if ((I 4 14) = 0) (pc' := 7) rfl rfl e_d (fun hc => ?_) (fun hc => ?_)
  · replace h := h.1 hc
    refine e_iconst (pc' := 18) rfl rfl kc_m1 ?_
    refine e_next (pc' := 30) rfl rfl ?_
    exact e_iret rfl h
  · replace h := h.2 hc
    refine e_next (pc' := 8) rfl rfl ?_
    refine e_if (x1 < 0) (pc' := 11) rfl rfl e_d (fun hc => ?_) (fun hc => ?_)
    · replace h := h.1 hc
      refine e_iconst (pc' := 18) rfl rfl kc_m1 ?_
      refine e_next (pc' := 30) rfl rfl ?_
      exact e_iret rfl h
    · replace h := h.2 hc
      refine e_next (pc' := 12) rfl rfl ?_
      refine e_bipush (pc' := 14) rfl rfl kb_8 ?_
      refine e_icmp (x1 < (nI 8)) (pc' := 17) rfl rfl e_d (fun hc => ?_) (fun hc => ?_)
      · replace h := h.1 hc
        refine e_next (pc' := 22) rfl rfl ?_
        refine e_getR (pc' := 25) rfl rfl (hs.o rfl) (hs.a rfl) ?_
        refine e_getR (pc' := 28) rfl rfl (hs.o rfl) (hs.a rfl) ?_
        refine e_next (pc' := 29) rfl rfl ?_
        obtain ⟨k1, hi_k1, hj_k1, h⟩ := h
        refine e_iald k1 (pc' := 30) rfl rfl (hs.k rfl) hi_k1 hj_k1 (by decide) ?_
        exact e_iret rfl h
      · replace h := h.2 hc
        refine e_iconst (pc' := 18) rfl rfl kc_m1 ?_
        refine e_next (pc' := 30) rfl rfl ?_
        exact e_iret rfl h
theorem w109 {d : Nat} {x1 : Int32} {g : qG} {I : qI} {J : qJ} {Q : qQ} (hs : qSh g)  (h : qC d 135 [.ref 4, .int x1] g I J (fun v _ _ _ => ∃ r1, v = some (.int r1) ∧ ((r1 = 0 → Q (some (.int (-1))) g I J) ∧ (¬ r1 = 0 → qC d 87 [.ref 89, .int x1] g I J (fun v _ _ _ => ∃ r2, v = some (.int r2) ∧ Q (some (.int r2)) g I J))))) : qC (d + 1) 109 [.ref 4, .int x1] g I J Q := by
  show qev (d + 1) 109 (0, [.ref 4, .int x1], [], g, I, J) Q
  refine e_next (pc' := 1) rfl rfl ?_
  refine e_next (pc' := 2) rfl rfl ?_
  refine e_cpI (pc' := 5) rfl (e_sV (as := [_]) (fun _ => rfl) (Or.inl rfl) rfl (hs.o rfl) rfl rfl (Nat.le_of_ble_eq_true rfl) (Nat.le_of_ble_eq_true rfl) rfl) rfl rfl rfl ?_
  refine qev.mono h (fun v _ _ _ h => ?_)
  obtain ⟨r1, rfl, h⟩ := h
  refine ⟨r1, rfl, ?_⟩
  refine e_if (¬ r1 = 0) (pc' := 8) rfl rfl e_d (fun hc => ?_) (fun hc => ?_)
  · replace h := h.2 hc
    refine e_next (pc' := 13) rfl rfl ?_
    refine e_getR (pc' := 16) rfl rfl (hs.o rfl) (hs.a rfl) ?_
    refine e_next (pc' := 17) rfl rfl ?_
    refine e_cpI (pc' := 20) rfl (e_sV (as := [_]) (fun _ => rfl) (Or.inl rfl) rfl (hs.o rfl) rfl rfl (Nat.le_of_ble_eq_true rfl) (Nat.le_of_ble_eq_true rfl) rfl) rfl rfl rfl ?_
    refine qev.mono h (fun v _ _ _ h => ?_)
    obtain ⟨r2, rfl, h⟩ := h
    refine ⟨r2, rfl, ?_⟩
    exact e_iret rfl h
  · replace h := h.1 (Decidable.not_not.mp hc)
    refine e_iconst (pc' := 9) rfl rfl kc_m1 ?_
    refine e_next (pc' := 20) rfl rfl ?_
    exact e_iret rfl h
theorem w110 {d : Nat} {x1 : Int32} {x2 : Int32} {g : qG} {I : qI} {J : qJ} {Q : qQ} (hs : qSh g)  (h : qC d 135 [.ref 4, .int x1] g I J (fun v _ _ _ => ∃ r1, v = some (.int r1) ∧ ((r1 = 0 → qC d 137 [.ref 4, .int (nI 0)] g I J (fun v _ I5 _ => ∃ r4, v = some (.int r4) ∧ Q (some (.int r4)) g I5 J)) ∧ (¬ r1 = 0 → (((nI 1) ≤ x2 → ((x2 < r1 → qC d 39 [.ref 101, .ref 89] g I J (fun v g1 I1 J1 => v = none ∧ qSh g1 ∧ ∃ k1, x1 = nI k1 ∧ k1 < 8 ∧ qC d 85 [.ref 89, .int (nI 1), .int x1] g1 (qw I1 90 k1 x2) J1 (fun v _ I2 _ => v = none ∧ Q (some (.int r1)) g1 I2 J1))) ∧ (¬ x2 < r1 → qC d 137 [.ref 4, .int (nI 2)] g I J (fun v _ I3 _ => ∃ r2, v = some (.int r2) ∧ Q (some (.int r2)) g I3 J)))) ∧ (¬ (nI 1) ≤ x2 → qC d 137 [.ref 4, .int (nI 1)] g I J (fun v _ I4 _ => ∃ r3, v = some (.int r3) ∧ Q (some (.int r3)) g I4 J))))))) : qC (d + 1) 110 [.ref 4, .int x1, .int x2] g I J Q := by
  show qev (d + 1) 110 (0, [.ref 4, .int x1, .int x2, qpad], [], g, I, J) Q
  refine e_next (pc' := 1) rfl rfl ?_
  refine e_next (pc' := 2) rfl rfl ?_
  refine e_cpI (pc' := 5) rfl (e_sV (as := [_]) (fun _ => rfl) (Or.inl rfl) rfl (hs.o rfl) rfl rfl (Nat.le_of_ble_eq_true rfl) (Nat.le_of_ble_eq_true rfl) rfl) rfl rfl rfl ?_
  refine qev.mono h (fun v _ _ _ h => ?_)
  obtain ⟨r1, rfl, h⟩ := h
  refine ⟨r1, rfl, ?_⟩
  refine e_next (pc' := 6) (ls' := [_, _, _, _]) rfl rfl ?_
  refine e_next (pc' := 7) rfl rfl ?_
  refine e_if (¬ r1 = 0) (pc' := 10) rfl rfl e_d (fun hc => ?_) (fun hc => ?_)
  · replace h := h.2 hc
    refine e_next (pc' := 17) rfl rfl ?_
    refine e_iconst (pc' := 18) rfl rfl kc_1 ?_
    refine e_icmp ((nI 1) ≤ x2) (pc' := 21) rfl rfl e_d (fun hc => ?_) (fun hc => ?_)
    · replace h := h.1 hc
      refine e_next (pc' := 28) rfl rfl ?_
      refine e_next (pc' := 29) rfl rfl ?_
      refine e_icmp (x2 < r1) (pc' := 32) rfl rfl e_d (fun hc => ?_) (fun hc => ?_)
      · replace h := h.1 hc
        refine e_next (pc' := 39) rfl rfl ?_
        refine e_getR (pc' := 42) rfl rfl (hs.o rfl) (hs.a rfl) ?_
        refine e_next (pc' := 43) rfl rfl ?_
        refine e_getR (pc' := 46) rfl rfl (hs.o rfl) (hs.a rfl) ?_
        refine e_cgV (pc' := 49) rfl (e_sV (as := [_]) (fun _ => rfl) (Or.inl rfl) rfl (hs.o rfl) rfl rfl (Nat.le_of_ble_eq_true rfl) (Nat.le_of_ble_eq_true rfl) rfl) ?_
        refine qev.mono h (fun v g1 I1 J1 h => ?_)
        obtain ⟨rfl, h⟩ := h
        refine ⟨rfl, ?_⟩
        obtain ⟨hs, h⟩ := h
        refine e_next (pc' := 50) rfl rfl ?_
        refine e_getR (pc' := 53) rfl rfl (hs.o rfl) (hs.a rfl) ?_
        refine e_getR (pc' := 56) rfl rfl (hs.o rfl) (hs.a rfl) ?_
        refine e_next (pc' := 57) rfl rfl ?_
        refine e_next (pc' := 58) rfl rfl ?_
        obtain ⟨k1, hi_k1, hj_k1, h⟩ := h
        refine e_iast k1 (pc' := 59) rfl rfl (hs.k rfl) hi_k1 hj_k1 (by decide) ?_
        refine e_next (pc' := 60) rfl rfl ?_
        refine e_getR (pc' := 63) rfl rfl (hs.o rfl) (hs.a rfl) ?_
        refine e_iconst (pc' := 64) rfl rfl kc_1 ?_
        refine e_next (pc' := 65) rfl rfl ?_
        refine e_ciV (pc' := 68) rfl (e_sV (as := [_, _]) (fun _ => rfl) (Or.inl rfl) rfl (hs.o rfl) rfl rfl (Nat.le_of_ble_eq_true rfl) (Nat.le_of_ble_eq_true rfl) rfl) rfl rfl ?_
        refine qev.mono h (fun v _ I2 _ h => ?_)
        obtain ⟨rfl, h⟩ := h
        refine ⟨rfl, ?_⟩
        refine e_next (pc' := 69) rfl rfl ?_
        exact e_iret rfl h
      · replace h := h.2 hc
        refine e_next (pc' := 33) rfl rfl ?_
        refine e_iconst (pc' := 34) rfl rfl kc_2 ?_
        refine e_ciI (pc' := 37) rfl (e_sV (as := [_]) (fun _ => rfl) (Or.inl rfl) rfl (hs.o rfl) rfl rfl (Nat.le_of_ble_eq_true rfl) (Nat.le_of_ble_eq_true rfl) rfl) rfl rfl ?_
        refine qev.mono h (fun v _ I3 _ h => ?_)
        obtain ⟨r2, rfl, h⟩ := h
        refine ⟨r2, rfl, ?_⟩
        exact e_iret rfl h
    · replace h := h.2 hc
      refine e_next (pc' := 22) rfl rfl ?_
      refine e_iconst (pc' := 23) rfl rfl kc_1 ?_
      refine e_ciI (pc' := 26) rfl (e_sV (as := [_]) (fun _ => rfl) (Or.inl rfl) rfl (hs.o rfl) rfl rfl (Nat.le_of_ble_eq_true rfl) (Nat.le_of_ble_eq_true rfl) rfl) rfl rfl ?_
      refine qev.mono h (fun v _ I4 _ h => ?_)
      obtain ⟨r3, rfl, h⟩ := h
      refine ⟨r3, rfl, ?_⟩
      exact e_iret rfl h
  · replace h := h.1 (Decidable.not_not.mp hc)
    refine e_next (pc' := 11) rfl rfl ?_
    refine e_iconst (pc' := 12) rfl rfl kc_0 ?_
    refine e_ciI (pc' := 15) rfl (e_sV (as := [_]) (fun _ => rfl) (Or.inl rfl) rfl (hs.o rfl) rfl rfl (Nat.le_of_ble_eq_true rfl) (Nat.le_of_ble_eq_true rfl) rfl) rfl rfl ?_
    refine qev.mono h (fun v _ I5 _ h => ?_)
    obtain ⟨r4, rfl, h⟩ := h
    refine ⟨r4, rfl, ?_⟩
    exact e_iret rfl h
theorem w111 {d : Nat} {x1 : Int32} {g : qG} {I : qI} {J : qJ} {Q : qQ} (hs : qSh g)  (h : qC d 135 [.ref 4, .int x1] g I J (fun v _ _ _ => ∃ r1, v = some (.int r1) ∧ ((r1 = 0 → qC d 137 [.ref 4, .int (nI 0)] g I J (fun v _ I3 _ => ∃ r2, v = some (.int r2) ∧ Q (some (.int r2)) g I3 J)) ∧ (¬ r1 = 0 → qC d 39 [.ref 101, .ref 89] g I J (fun v g1 I1 J1 => v = none ∧ qSh g1 ∧ ∃ k1, x1 = nI k1 ∧ k1 < 8 ∧ qC d 85 [.ref 89, .int (nI 2), .int x1] g1 (qw I1 90 k1 (nI 0)) J1 (fun v _ I2 _ => v = none ∧ Q (some (.int r1)) g1 I2 J1)))))) : qC (d + 1) 111 [.ref 4, .int x1] g I J Q := by
  show qev (d + 1) 111 (0, [.ref 4, .int x1, qpad], [], g, I, J) Q
  refine e_next (pc' := 1) rfl rfl ?_
  refine e_next (pc' := 2) rfl rfl ?_
  refine e_cpI (pc' := 5) rfl (e_sV (as := [_]) (fun _ => rfl) (Or.inl rfl) rfl (hs.o rfl) rfl rfl (Nat.le_of_ble_eq_true rfl) (Nat.le_of_ble_eq_true rfl) rfl) rfl rfl rfl ?_
  refine qev.mono h (fun v _ _ _ h => ?_)
  obtain ⟨r1, rfl, h⟩ := h
  refine ⟨r1, rfl, ?_⟩
  refine e_next (pc' := 6) (ls' := [_, _, _]) rfl rfl ?_
  refine e_next (pc' := 7) rfl rfl ?_
  refine e_if (¬ r1 = 0) (pc' := 10) rfl rfl e_d (fun hc => ?_) (fun hc => ?_)
  · replace h := h.2 hc
    refine e_next (pc' := 17) rfl rfl ?_
    refine e_getR (pc' := 20) rfl rfl (hs.o rfl) (hs.a rfl) ?_
    refine e_next (pc' := 21) rfl rfl ?_
    refine e_getR (pc' := 24) rfl rfl (hs.o rfl) (hs.a rfl) ?_
    refine e_cgV (pc' := 27) rfl (e_sV (as := [_]) (fun _ => rfl) (Or.inl rfl) rfl (hs.o rfl) rfl rfl (Nat.le_of_ble_eq_true rfl) (Nat.le_of_ble_eq_true rfl) rfl) ?_
    refine qev.mono h (fun v g1 I1 J1 h => ?_)
    obtain ⟨rfl, h⟩ := h
    refine ⟨rfl, ?_⟩
    obtain ⟨hs, h⟩ := h
    refine e_next (pc' := 28) rfl rfl ?_
    refine e_getR (pc' := 31) rfl rfl (hs.o rfl) (hs.a rfl) ?_
    refine e_getR (pc' := 34) rfl rfl (hs.o rfl) (hs.a rfl) ?_
    refine e_next (pc' := 35) rfl rfl ?_
    refine e_iconst (pc' := 36) rfl rfl kc_0 ?_
    obtain ⟨k1, hi_k1, hj_k1, h⟩ := h
    refine e_iast k1 (pc' := 37) rfl rfl (hs.k rfl) hi_k1 hj_k1 (by decide) ?_
    refine e_next (pc' := 38) rfl rfl ?_
    refine e_getR (pc' := 41) rfl rfl (hs.o rfl) (hs.a rfl) ?_
    refine e_iconst (pc' := 42) rfl rfl kc_2 ?_
    refine e_next (pc' := 43) rfl rfl ?_
    refine e_ciV (pc' := 46) rfl (e_sV (as := [_, _]) (fun _ => rfl) (Or.inl rfl) rfl (hs.o rfl) rfl rfl (Nat.le_of_ble_eq_true rfl) (Nat.le_of_ble_eq_true rfl) rfl) rfl rfl ?_
    refine qev.mono h (fun v _ I2 _ h => ?_)
    obtain ⟨rfl, h⟩ := h
    refine ⟨rfl, ?_⟩
    refine e_next (pc' := 47) rfl rfl ?_
    exact e_iret rfl h
  · replace h := h.1 (Decidable.not_not.mp hc)
    refine e_next (pc' := 11) rfl rfl ?_
    refine e_iconst (pc' := 12) rfl rfl kc_0 ?_
    refine e_ciI (pc' := 15) rfl (e_sV (as := [_]) (fun _ => rfl) (Or.inl rfl) rfl (hs.o rfl) rfl rfl (Nat.le_of_ble_eq_true rfl) (Nat.le_of_ble_eq_true rfl) rfl) rfl rfl ?_
    refine qev.mono h (fun v _ I3 _ h => ?_)
    obtain ⟨r2, rfl, h⟩ := h
    refine ⟨r2, rfl, ?_⟩
    exact e_iret rfl h
theorem w112 {d : Nat} {x1 : Int32} {x2 : Int32} {g : qG} {I : qI} {J : qJ} {Q : qQ} (hs : qSh g)  (h : ((x1 < 0 → qC d 137 [.ref 4, .int (nI 0)] g I J (fun v _ I1 _ => ∃ r1, v = some (.int r1) ∧ Q (some (.int r1)) g I1 J)) ∧ (¬ x1 < 0 → (((nI 8) ≤ x1 → qC d 137 [.ref 4, .int (nI 0)] g I J (fun v _ I2 _ => ∃ r2, v = some (.int r2) ∧ Q (some (.int r2)) g I2 J)) ∧ (¬ (nI 8) ≤ x1 → ((x2 < 0 → qC d 137 [.ref 4, .int (nI 0)] g I J (fun v _ I3 _ => ∃ r3, v = some (.int r3) ∧ Q (some (.int r3)) g I3 J)) ∧ (¬ x2 < 0 → ((x2 < (nI 8) → qC d 135 [.ref 4, .int x1] g I J (fun v _ _ _ => ∃ r4, v = some (.int r4) ∧ ((r4 = 0 → qC d 135 [.ref 4, .int x2] g I J (fun v _ _ _ => ∃ r6, v = some (.int r6) ∧ ((r6 = 0 → qC d 137 [.ref 4, .int (nI 0)] g I J (fun v _ I12 _ => ∃ r8, v = some (.int r8) ∧ Q (some (.int r8)) g I12 J)) ∧ (¬ r6 = 0 → ((x1 = x2 → qC d 137 [.ref 4, .int (nI 2)] g I J (fun v _ I11 _ => ∃ r7, v = some (.int r7) ∧ Q (some (.int r7)) g I11 J)) ∧ (¬ x1 = x2 → qC d 39 [.ref 101, .ref 89] g I J (fun v g2 I8 J2 => v = none ∧ qSh g2 ∧ qC d 84 [.ref 89, .int x1, .int x2] g2 I8 J2 (fun v _ I9 _ => v = none ∧ qC d 85 [.ref 89, .int (nI 3), .int x1] g2 I9 J2 (fun v _ I10 _ => v = none ∧ ∃ k2, x1 = nI k2 ∧ k2 < 8 ∧ Q (some (.int (I10 90 k2))) g2 I10 J2))))))))) ∧ (¬ r4 = 0 → ((x1 = x2 → qC d 137 [.ref 4, .int (nI 2)] g I J (fun v _ I7 _ => ∃ r5, v = some (.int r5) ∧ Q (some (.int r5)) g I7 J)) ∧ (¬ x1 = x2 → qC d 39 [.ref 101, .ref 89] g I J (fun v g1 I4 J1 => v = none ∧ qSh g1 ∧ qC d 84 [.ref 89, .int x1, .int x2] g1 I4 J1 (fun v _ I5 _ => v = none ∧ qC d 85 [.ref 89, .int (nI 3), .int x1] g1 I5 J1 (fun v _ I6 _ => v = none ∧ ∃ k1, x1 = nI k1 ∧ k1 < 8 ∧ Q (some (.int (I6 90 k1))) g1 I6 J1))))))))) ∧ (¬ x2 < (nI 8) → qC d 137 [.ref 4, .int (nI 0)] g I J (fun v _ I13 _ => ∃ r9, v = some (.int r9) ∧ Q (some (.int r9)) g I13 J)))))))))) : qC (d + 1) 112 [.ref 4, .int x1, .int x2] g I J Q := by
  show qev (d + 1) 112 (0, [.ref 4, .int x1, .int x2], [], g, I, J) Q
  refine e_next (pc' := 1) rfl rfl ?_
  refine e_if (x1 < 0) (pc' := 4) rfl rfl e_d (fun hc => ?_) (fun hc => ?_)
  · replace h := h.1 hc
    refine e_next (pc' := 21) rfl rfl ?_
    refine e_iconst (pc' := 22) rfl rfl kc_0 ?_
    refine e_ciI (pc' := 25) rfl (e_sV (as := [_]) (fun _ => rfl) (Or.inl rfl) rfl (hs.o rfl) rfl rfl (Nat.le_of_ble_eq_true rfl) (Nat.le_of_ble_eq_true rfl) rfl) rfl rfl ?_
    refine qev.mono h (fun v _ I1 _ h => ?_)
    obtain ⟨r1, rfl, h⟩ := h
    refine ⟨r1, rfl, ?_⟩
    exact e_iret rfl h
  · replace h := h.2 hc
    refine e_next (pc' := 5) rfl rfl ?_
    refine e_bipush (pc' := 7) rfl rfl kb_8 ?_
    refine e_icmp ((nI 8) ≤ x1) (pc' := 10) rfl rfl e_d (fun hc => ?_) (fun hc => ?_)
    · replace h := h.1 hc
      refine e_next (pc' := 21) rfl rfl ?_
      refine e_iconst (pc' := 22) rfl rfl kc_0 ?_
      refine e_ciI (pc' := 25) rfl (e_sV (as := [_]) (fun _ => rfl) (Or.inl rfl) rfl (hs.o rfl) rfl rfl (Nat.le_of_ble_eq_true rfl) (Nat.le_of_ble_eq_true rfl) rfl) rfl rfl ?_
      refine qev.mono h (fun v _ I2 _ h => ?_)
      obtain ⟨r2, rfl, h⟩ := h
      refine ⟨r2, rfl, ?_⟩
      exact e_iret rfl h
    · replace h := h.2 hc
      refine e_next (pc' := 11) rfl rfl ?_
      refine e_if (x2 < 0) (pc' := 14) rfl rfl e_d (fun hc => ?_) (fun hc => ?_)
      · replace h := h.1 hc
        refine e_next (pc' := 21) rfl rfl ?_
        refine e_iconst (pc' := 22) rfl rfl kc_0 ?_
        refine e_ciI (pc' := 25) rfl (e_sV (as := [_]) (fun _ => rfl) (Or.inl rfl) rfl (hs.o rfl) rfl rfl (Nat.le_of_ble_eq_true rfl) (Nat.le_of_ble_eq_true rfl) rfl) rfl rfl ?_
        refine qev.mono h (fun v _ I3 _ h => ?_)
        obtain ⟨r3, rfl, h⟩ := h
        refine ⟨r3, rfl, ?_⟩
        exact e_iret rfl h
      · replace h := h.2 hc
        refine e_next (pc' := 15) rfl rfl ?_
        refine e_bipush (pc' := 17) rfl rfl kb_8 ?_
        refine e_icmp (x2 < (nI 8)) (pc' := 20) rfl rfl e_d (fun hc => ?_) (fun hc => ?_)
        · replace h := h.1 hc
          refine e_next (pc' := 27) rfl rfl ?_
          refine e_next (pc' := 28) rfl rfl ?_
          refine e_cpI (pc' := 31) rfl (e_sV (as := [_]) (fun _ => rfl) (Or.inl rfl) rfl (hs.o rfl) rfl rfl (Nat.le_of_ble_eq_true rfl) (Nat.le_of_ble_eq_true rfl) rfl) rfl rfl rfl ?_
          refine qev.mono h (fun v _ _ _ h => ?_)
          obtain ⟨r4, rfl, h⟩ := h
          refine ⟨r4, rfl, ?_⟩
          refine e_if (¬ r4 = 0) (pc' := 34) rfl rfl e_d (fun hc => ?_) (fun hc => ?_)
          · replace h := h.2 hc
            refine e_next (pc' := 49) rfl rfl ?_
            refine e_next (pc' := 50) rfl rfl ?_
            refine e_icmp (¬ x1 = x2) (pc' := 53) rfl rfl e_d (fun hc => ?_) (fun hc => ?_)
            · replace h := h.2 hc
              refine e_next (pc' := 60) rfl rfl ?_
              refine e_getR (pc' := 63) rfl rfl (hs.o rfl) (hs.a rfl) ?_
              refine e_next (pc' := 64) rfl rfl ?_
              refine e_getR (pc' := 67) rfl rfl (hs.o rfl) (hs.a rfl) ?_
              refine e_cgV (pc' := 70) rfl (e_sV (as := [_]) (fun _ => rfl) (Or.inl rfl) rfl (hs.o rfl) rfl rfl (Nat.le_of_ble_eq_true rfl) (Nat.le_of_ble_eq_true rfl) rfl) ?_
              refine qev.mono h (fun v g1 I4 J1 h => ?_)
              obtain ⟨rfl, h⟩ := h
              refine ⟨rfl, ?_⟩
              obtain ⟨hs, h⟩ := h
              refine e_next (pc' := 71) rfl rfl ?_
              refine e_getR (pc' := 74) rfl rfl (hs.o rfl) (hs.a rfl) ?_
              refine e_next (pc' := 75) rfl rfl ?_
              refine e_next (pc' := 76) rfl rfl ?_
              refine e_ciV (pc' := 79) rfl (e_sV (as := [_, _]) (fun _ => rfl) (Or.inl rfl) rfl (hs.o rfl) rfl rfl (Nat.le_of_ble_eq_true rfl) (Nat.le_of_ble_eq_true rfl) rfl) rfl rfl ?_
              refine qev.mono h (fun v _ I5 _ h => ?_)
              obtain ⟨rfl, h⟩ := h
              refine ⟨rfl, ?_⟩
              refine e_next (pc' := 80) rfl rfl ?_
              refine e_getR (pc' := 83) rfl rfl (hs.o rfl) (hs.a rfl) ?_
              refine e_iconst (pc' := 84) rfl rfl kc_3 ?_
              refine e_next (pc' := 85) rfl rfl ?_
              refine e_ciV (pc' := 88) rfl (e_sV (as := [_, _]) (fun _ => rfl) (Or.inl rfl) rfl (hs.o rfl) rfl rfl (Nat.le_of_ble_eq_true rfl) (Nat.le_of_ble_eq_true rfl) rfl) rfl rfl ?_
              refine qev.mono h (fun v _ I6 _ h => ?_)
              obtain ⟨rfl, h⟩ := h
              refine ⟨rfl, ?_⟩
              refine e_next (pc' := 89) rfl rfl ?_
              refine e_getR (pc' := 92) rfl rfl (hs.o rfl) (hs.a rfl) ?_
              refine e_getR (pc' := 95) rfl rfl (hs.o rfl) (hs.a rfl) ?_
              refine e_next (pc' := 96) rfl rfl ?_
              obtain ⟨k1, hi_k1, hj_k1, h⟩ := h
              refine e_iald k1 (pc' := 97) rfl rfl (hs.k rfl) hi_k1 hj_k1 (by decide) ?_
              exact e_iret rfl h
            · replace h := h.1 (Decidable.not_not.mp hc)
              refine e_next (pc' := 54) rfl rfl ?_
              refine e_iconst (pc' := 55) rfl rfl kc_2 ?_
              refine e_ciI (pc' := 58) rfl (e_sV (as := [_]) (fun _ => rfl) (Or.inl rfl) rfl (hs.o rfl) rfl rfl (Nat.le_of_ble_eq_true rfl) (Nat.le_of_ble_eq_true rfl) rfl) rfl rfl ?_
              refine qev.mono h (fun v _ I7 _ h => ?_)
              obtain ⟨r5, rfl, h⟩ := h
              refine ⟨r5, rfl, ?_⟩
              exact e_iret rfl h
          · replace h := h.1 (Decidable.not_not.mp hc)
            refine e_next (pc' := 35) rfl rfl ?_
            refine e_next (pc' := 36) rfl rfl ?_
            refine e_cpI (pc' := 39) rfl (e_sV (as := [_]) (fun _ => rfl) (Or.inl rfl) rfl (hs.o rfl) rfl rfl (Nat.le_of_ble_eq_true rfl) (Nat.le_of_ble_eq_true rfl) rfl) rfl rfl rfl ?_
            refine qev.mono h (fun v _ _ _ h => ?_)
            obtain ⟨r6, rfl, h⟩ := h
            refine ⟨r6, rfl, ?_⟩
            refine e_if (¬ r6 = 0) (pc' := 42) rfl rfl e_d (fun hc => ?_) (fun hc => ?_)
            · replace h := h.2 hc
              refine e_next (pc' := 49) rfl rfl ?_
              refine e_next (pc' := 50) rfl rfl ?_
              refine e_icmp (¬ x1 = x2) (pc' := 53) rfl rfl e_d (fun hc => ?_) (fun hc => ?_)
              · replace h := h.2 hc
                refine e_next (pc' := 60) rfl rfl ?_
                refine e_getR (pc' := 63) rfl rfl (hs.o rfl) (hs.a rfl) ?_
                refine e_next (pc' := 64) rfl rfl ?_
                refine e_getR (pc' := 67) rfl rfl (hs.o rfl) (hs.a rfl) ?_
                refine e_cgV (pc' := 70) rfl (e_sV (as := [_]) (fun _ => rfl) (Or.inl rfl) rfl (hs.o rfl) rfl rfl (Nat.le_of_ble_eq_true rfl) (Nat.le_of_ble_eq_true rfl) rfl) ?_
                refine qev.mono h (fun v g2 I8 J2 h => ?_)
                obtain ⟨rfl, h⟩ := h
                refine ⟨rfl, ?_⟩
                obtain ⟨hs, h⟩ := h
                refine e_next (pc' := 71) rfl rfl ?_
                refine e_getR (pc' := 74) rfl rfl (hs.o rfl) (hs.a rfl) ?_
                refine e_next (pc' := 75) rfl rfl ?_
                refine e_next (pc' := 76) rfl rfl ?_
                refine e_ciV (pc' := 79) rfl (e_sV (as := [_, _]) (fun _ => rfl) (Or.inl rfl) rfl (hs.o rfl) rfl rfl (Nat.le_of_ble_eq_true rfl) (Nat.le_of_ble_eq_true rfl) rfl) rfl rfl ?_
                refine qev.mono h (fun v _ I9 _ h => ?_)
                obtain ⟨rfl, h⟩ := h
                refine ⟨rfl, ?_⟩
                refine e_next (pc' := 80) rfl rfl ?_
                refine e_getR (pc' := 83) rfl rfl (hs.o rfl) (hs.a rfl) ?_
                refine e_iconst (pc' := 84) rfl rfl kc_3 ?_
                refine e_next (pc' := 85) rfl rfl ?_
                refine e_ciV (pc' := 88) rfl (e_sV (as := [_, _]) (fun _ => rfl) (Or.inl rfl) rfl (hs.o rfl) rfl rfl (Nat.le_of_ble_eq_true rfl) (Nat.le_of_ble_eq_true rfl) rfl) rfl rfl ?_
                refine qev.mono h (fun v _ I10 _ h => ?_)
                obtain ⟨rfl, h⟩ := h
                refine ⟨rfl, ?_⟩
                refine e_next (pc' := 89) rfl rfl ?_
                refine e_getR (pc' := 92) rfl rfl (hs.o rfl) (hs.a rfl) ?_
                refine e_getR (pc' := 95) rfl rfl (hs.o rfl) (hs.a rfl) ?_
                refine e_next (pc' := 96) rfl rfl ?_
                obtain ⟨k2, hi_k2, hj_k2, h⟩ := h
                refine e_iald k2 (pc' := 97) rfl rfl (hs.k rfl) hi_k2 hj_k2 (by decide) ?_
                exact e_iret rfl h
              · replace h := h.1 (Decidable.not_not.mp hc)
                refine e_next (pc' := 54) rfl rfl ?_
                refine e_iconst (pc' := 55) rfl rfl kc_2 ?_
                refine e_ciI (pc' := 58) rfl (e_sV (as := [_]) (fun _ => rfl) (Or.inl rfl) rfl (hs.o rfl) rfl rfl (Nat.le_of_ble_eq_true rfl) (Nat.le_of_ble_eq_true rfl) rfl) rfl rfl ?_
                refine qev.mono h (fun v _ I11 _ h => ?_)
                obtain ⟨r7, rfl, h⟩ := h
                refine ⟨r7, rfl, ?_⟩
                exact e_iret rfl h
            · replace h := h.1 (Decidable.not_not.mp hc)
              refine e_next (pc' := 43) rfl rfl ?_
              refine e_iconst (pc' := 44) rfl rfl kc_0 ?_
              refine e_ciI (pc' := 47) rfl (e_sV (as := [_]) (fun _ => rfl) (Or.inl rfl) rfl (hs.o rfl) rfl rfl (Nat.le_of_ble_eq_true rfl) (Nat.le_of_ble_eq_true rfl) rfl) rfl rfl ?_
              refine qev.mono h (fun v _ I12 _ h => ?_)
              obtain ⟨r8, rfl, h⟩ := h
              refine ⟨r8, rfl, ?_⟩
              exact e_iret rfl h
        · replace h := h.2 hc
          refine e_next (pc' := 21) rfl rfl ?_
          refine e_iconst (pc' := 22) rfl rfl kc_0 ?_
          refine e_ciI (pc' := 25) rfl (e_sV (as := [_]) (fun _ => rfl) (Or.inl rfl) rfl (hs.o rfl) rfl rfl (Nat.le_of_ble_eq_true rfl) (Nat.le_of_ble_eq_true rfl) rfl) rfl rfl ?_
          refine qev.mono h (fun v _ I13 _ h => ?_)
          obtain ⟨r9, rfl, h⟩ := h
          refine ⟨r9, rfl, ?_⟩
          exact e_iret rfl h
theorem w113 {d : Nat} {x1 : Int32} {g : qG} {I : qI} {J : qJ} {Q : qQ} (hs : qSh g)  (h : qC d 136 [.ref 4, .int x1] g I J (fun v _ _ _ => ∃ r1, v = some (va_rf r1) ∧ ((r1 = none → qC d 137 [.ref 4, .int (nI 0)] g I J (fun v _ I1 _ => ∃ r2, v = some (.int r2) ∧ Q (some (.int r2)) g I1 J)) ∧ (∀ b1, r1 = some b1 → ∃ n_b1, qCod g b1 n_b1 ∧ (((I 4 14) = 0 → qC d 137 [.ref 4, .int (nI 0)] g I J (fun v _ I6 _ => ∃ r5, v = some (.int r5) ∧ Q (some (.int r5)) g I6 J)) ∧ (¬ (I 4 14) = 0 → qC d 140 [.ref 4, .ref b1] g I J (fun v _ I2 _ => ∃ r3, v = some (.int r3) ∧ ((r3 = (-1) → qC d 39 [.ref 101, .ref 89] g I2 J (fun v g1 I3 J1 => v = none ∧ qSh g1 ∧ qCod g1 b1 n_b1 ∧ qC d 80 [.ref 89, .ref 93] g1 I3 J1 (fun v _ I4 _ => v = none ∧ Q (some (.int (I4 b1 3))) g1 I4 J1))) ∧ (¬ r3 = (-1) → qC d 137 [.ref 4, .int r3] g I2 J (fun v _ I5 _ => ∃ r4, v = some (.int r4) ∧ Q (some (.int r4)) g I5 J)))))))))) : qC (d + 1) 113 [.ref 4, .int x1] g I J Q := by
  show qev (d + 1) 113 (0, [.ref 4, .int x1, qpad, qpad], [], g, I, J) Q
  refine e_next (pc' := 1) rfl rfl ?_
  refine e_next (pc' := 2) rfl rfl ?_
  refine e_cpA (pc' := 5) rfl (e_sV (as := [_]) (fun _ => rfl) (Or.inl rfl) rfl (hs.o rfl) rfl rfl (Nat.le_of_ble_eq_true rfl) (Nat.le_of_ble_eq_true rfl) rfl) rfl rfl rfl ?_
  refine qev.mono h (fun v _ _ _ h => ?_)
  obtain ⟨r1, rfl, h⟩ := h
  refine ⟨r1, rfl, ?_⟩
  refine e_astoreOn (pc' := 6) (ls' := [_, _, va_rf r1, _]) (x := r1) rfl rfl rfl ?_
  refine e_aloadOn (pc' := 7) (x := r1) rfl rfl rfl ?_
  refine e_ifnull (pc' := 10) rfl rfl (fun hc => ?_) (fun b1 hc => ?_)
  · replace h := h.1 hc
    subst hc
    refine e_next (pc' := 18) rfl rfl ?_
    refine e_iconst (pc' := 19) rfl rfl kc_0 ?_
    refine e_ciI (pc' := 22) rfl (e_sV (as := [_]) (fun _ => rfl) (Or.inl rfl) rfl (hs.o rfl) rfl rfl (Nat.le_of_ble_eq_true rfl) (Nat.le_of_ble_eq_true rfl) rfl) rfl rfl ?_
    refine qev.mono h (fun v _ I1 _ h => ?_)
    obtain ⟨r2, rfl, h⟩ := h
    refine ⟨r2, rfl, ?_⟩
    exact e_iret rfl h
  · have h2 := h.2 b1 hc
    clear h
    obtain ⟨n_b1, h_b1, h⟩ := h2
    subst hc
    refine e_next (pc' := 11) rfl rfl ?_
    refine e_getI (pc' := 14) rfl (Or.inr rfl) rfl (hs.o rfl) ?_
    refine e_if (¬ (I 4 14) = 0) (pc' := 17) rfl rfl e_d (fun hc => ?_) (fun hc => ?_)
    · replace h := h.2 hc
      refine e_next (pc' := 24) rfl rfl ?_
      refine e_next (pc' := 25) rfl rfl ?_
      refine e_ciI (pc' := 28) rfl (e_sV (as := [_]) (fun _ => rfl) (Or.inl rfl) rfl (hs.o rfl) rfl rfl (Nat.le_of_ble_eq_true rfl) (Nat.le_of_ble_eq_true rfl) rfl) rfl rfl ?_
      refine qev.mono h (fun v _ I2 _ h => ?_)
      obtain ⟨r3, rfl, h⟩ := h
      refine ⟨r3, rfl, ?_⟩
      refine e_next (pc' := 29) (ls' := [_, _, _, _]) rfl rfl ?_
      refine e_next (pc' := 30) rfl rfl ?_
      refine e_iconst (pc' := 31) rfl rfl kc_m1 ?_
      refine e_icmp (r3 = (-1)) (pc' := 34) rfl rfl e_d (fun hc => ?_) (fun hc => ?_)
      · replace h := h.1 hc
        refine e_next (pc' := 41) rfl rfl ?_
        refine e_getR (pc' := 44) rfl rfl (hs.o rfl) (hs.a rfl) ?_
        refine e_next (pc' := 45) rfl rfl ?_
        refine e_getR (pc' := 48) rfl rfl (hs.o rfl) (hs.a rfl) ?_
        refine e_cgV (pc' := 51) rfl (e_sV (as := [_]) (fun _ => rfl) (Or.inl rfl) rfl (hs.o rfl) rfl rfl (Nat.le_of_ble_eq_true rfl) (Nat.le_of_ble_eq_true rfl) rfl) ?_
        refine qev.mono h (fun v g1 I3 J1 h => ?_)
        obtain ⟨rfl, h⟩ := h
        refine ⟨rfl, ?_⟩
        obtain ⟨hs, h_b1, h⟩ := h
        refine e_next (pc' := 52) rfl rfl ?_
        refine e_getR (pc' := 55) rfl rfl (hs.o rfl) (hs.a rfl) ?_
        refine e_next (pc' := 56) rfl rfl ?_
        refine e_getR (pc' := 59) rfl rfl (hs.o rfl) (hs.a rfl) ?_
        refine e_ciV (pc' := 62) rfl (e_sV (as := [_]) (fun _ => rfl) (Or.inl rfl) rfl (hs.o rfl) rfl rfl (Nat.le_of_ble_eq_true rfl) (Nat.le_of_ble_eq_true rfl) rfl) rfl rfl ?_
        refine qev.mono h (fun v _ I4 _ h => ?_)
        obtain ⟨rfl, h⟩ := h
        refine ⟨rfl, ?_⟩
        refine e_next (pc' := 63) rfl rfl ?_
        refine e_getI (pc' := 66) rfl (Or.inl rfl) rfl h_b1.o ?_
        exact e_iret rfl h
      · replace h := h.2 hc
        refine e_next (pc' := 35) rfl rfl ?_
        refine e_next (pc' := 36) rfl rfl ?_
        refine e_ciI (pc' := 39) rfl (e_sV (as := [_]) (fun _ => rfl) (Or.inl rfl) rfl (hs.o rfl) rfl rfl (Nat.le_of_ble_eq_true rfl) (Nat.le_of_ble_eq_true rfl) rfl) rfl rfl ?_
        refine qev.mono h (fun v _ I5 _ h => ?_)
        obtain ⟨r4, rfl, h⟩ := h
        refine ⟨r4, rfl, ?_⟩
        exact e_iret rfl h
    · replace h := h.1 (Decidable.not_not.mp hc)
      refine e_next (pc' := 18) rfl rfl ?_
      refine e_iconst (pc' := 19) rfl rfl kc_0 ?_
      refine e_ciI (pc' := 22) rfl (e_sV (as := [_]) (fun _ => rfl) (Or.inl rfl) rfl (hs.o rfl) rfl rfl (Nat.le_of_ble_eq_true rfl) (Nat.le_of_ble_eq_true rfl) rfl) rfl rfl ?_
      refine qev.mono h (fun v _ I6 _ h => ?_)
      obtain ⟨r5, rfl, h⟩ := h
      refine ⟨r5, rfl, ?_⟩
      exact e_iret rfl h
theorem w114 {d : Nat} {x1 : Int32} {x2 : Int64} {g : qG} {I : qI} {J : qJ} {Q : qQ} (hs : qSh g)  (h : (((I 4 14) = 0 → Q (some (.int (-1))) g I J) ∧ (¬ (I 4 14) = 0 → ((x1 < (nI 1) → Q (some (.int (-1))) g I J) ∧ (¬ x1 < (nI 1) → ((x1 ≤ (nI 40) → qev (d + 1) 114 (28, [.ref 4, .int x1, .long x2, qpad, .int (nI 0)], [], g, I, (qw J 4 17 x2)) Q) ∧ (¬ x1 ≤ (nI 40) → Q (some (.int (-1))) g I J))))))) : qC (d + 1) 114 [.ref 4, .int x1, .long x2] g I J Q := by
  show qev (d + 1) 114 (0, [.ref 4, .int x1, .long x2, qpad, qpad], [], g, I, J) Q
  refine e_next (pc' := 1) rfl rfl ?_
  refine e_getI (pc' := 4) rfl (Or.inr rfl) rfl (hs.o rfl) ?_
  refine e_if ((I 4 14) = 0) (pc' := 7) rfl rfl e_d (fun hc => ?_) (fun hc => ?_)
  · replace h := h.1 hc
    refine e_iconst (pc' := 19) rfl rfl kc_m1 ?_
    exact e_iret rfl h
  · replace h := h.2 hc
    refine e_next (pc' := 8) rfl rfl ?_
    refine e_iconst (pc' := 9) rfl rfl kc_1 ?_
    refine e_icmp (x1 < (nI 1)) (pc' := 12) rfl rfl e_d (fun hc => ?_) (fun hc => ?_)
    · replace h := h.1 hc
      refine e_iconst (pc' := 19) rfl rfl kc_m1 ?_
      exact e_iret rfl h
    · replace h := h.2 hc
      refine e_next (pc' := 13) rfl rfl ?_
      refine e_bipush (pc' := 15) rfl rfl kb_40 ?_
      refine e_icmp (x1 ≤ (nI 40)) (pc' := 18) rfl rfl e_d (fun hc => ?_) (fun hc => ?_)
      · replace h := h.1 hc
        refine e_next (pc' := 21) rfl rfl ?_
        refine e_next (pc' := 22) rfl rfl ?_
        refine e_putJ (pc' := 25) rfl rfl (hs.o rfl) ?_
        refine e_iconst (pc' := 26) rfl rfl kc_0 ?_
        refine e_next (pc' := 28) (ls' := [_, _, _, _, _]) rfl rfl ?_
        exact h
      · replace h := h.2 hc
        refine e_iconst (pc' := 19) rfl rfl kc_m1 ?_
        exact e_iret rfl h
theorem w114_28 {d : Nat} {i1 : Int32} {j2 : Int64} {i4 : Int32} {g : qG} {I : qI} {J : qJ} {Q : qQ} (hs : qSh g)  (h : ((i1 ≤ i4 → qC d 88 [.ref 89] g I J (fun v _ _ _ => ∃ r1, v = some (.int r1) ∧ Q (some (.int r1)) g I J)) ∧ (¬ i1 ≤ i4 → qC d 142 [.ref 4] g I J (fun v _ I1 J1 => v = none ∧ qC d 43 [.ref 33, .ref 7, .int (nI 0), .ref 89] g I1 J1 (fun v _ I2 _ => ∃ r2, v = some (.int r2) ∧ ((r2 = (-1) → qC d 139 [.ref 4, .int (I2 9 0)] g I2 J1 (fun v g1 I3 J2 => ∃ r3, v = some (.int r3) ∧ qSh g1 ∧ qev (d + 1) 114 (28, [.ref 4, .int i1, .long j2, qpad, .int (i4 + (nI 1))], [], g1, I3, J2) Q)) ∧ (¬ r2 = (-1) → qev (d + 1) 114 (28, [.ref 4, .int i1, .long j2, qpad, .int (i4 + (nI 1))], [], g, I2, J1) Q))))))) : qev (d + 1) 114 (28, [.ref 4, .int i1, .long j2, qpad, .int i4], [], g, I, J) Q := by
  refine e_next (pc' := 30) rfl rfl ?_
  refine e_next (pc' := 31) rfl rfl ?_
  refine e_icmp (i1 ≤ i4) (pc' := 34) rfl rfl e_d (fun hc => ?_) (fun hc => ?_)
  · replace h := h.1 hc
    refine e_next (pc' := 79) rfl rfl ?_
    refine e_getR (pc' := 82) rfl rfl (hs.o rfl) (hs.a rfl) ?_
    refine e_cpI (pc' := 85) rfl (e_sV (as := []) (fun _ => rfl) (Or.inl rfl) rfl (hs.o rfl) rfl rfl (Nat.le_of_ble_eq_true rfl) (Nat.le_of_ble_eq_true rfl) rfl) rfl rfl rfl ?_
    refine qev.mono h (fun v _ _ _ h => ?_)
    obtain ⟨r1, rfl, h⟩ := h
    refine ⟨r1, rfl, ?_⟩
    exact e_iret rfl h
  · replace h := h.2 hc
    refine e_next (pc' := 35) rfl rfl ?_
    refine e_cjV (pc' := 38) rfl (e_sV (as := []) (fun _ => rfl) (Or.inl rfl) rfl (hs.o rfl) rfl rfl (Nat.le_of_ble_eq_true rfl) (Nat.le_of_ble_eq_true rfl) rfl) rfl ?_
    refine qev.mono h (fun v _ I1 J1 h => ?_)
    obtain ⟨rfl, h⟩ := h
    refine ⟨rfl, ?_⟩
    refine e_next (pc' := 39) rfl rfl ?_
    refine e_getR (pc' := 42) rfl rfl (hs.o rfl) (hs.a rfl) ?_
    refine e_next (pc' := 43) rfl rfl ?_
    refine e_getR (pc' := 46) rfl rfl (hs.o rfl) (hs.a rfl) ?_
    refine e_iconst (pc' := 47) rfl rfl kc_0 ?_
    refine e_next (pc' := 48) rfl rfl ?_
    refine e_getR (pc' := 51) rfl rfl (hs.o rfl) (hs.a rfl) ?_
    refine e_ciI (pc' := 54) rfl (e_sV (as := [_, _, _]) (fun _ => rfl) (Or.inl rfl) rfl (hs.o rfl) rfl rfl (Nat.le_of_ble_eq_true rfl) (Nat.le_of_ble_eq_true rfl) rfl) rfl rfl ?_
    refine qev.mono h (fun v _ I2 _ h => ?_)
    obtain ⟨r2, rfl, h⟩ := h
    refine ⟨r2, rfl, ?_⟩
    refine e_iconst (pc' := 55) rfl rfl kc_m1 ?_
    refine e_icmp (¬ r2 = (-1)) (pc' := 58) rfl rfl e_d (fun hc => ?_) (fun hc => ?_)
    · replace h := h.2 hc
      refine e_iinc (pc' := 75) (ls' := [_, _, _, _, _]) (v := (nI 1)) rfl rfl kc_1 rfl rfl ?_
      refine e_next (pc' := 28) rfl rfl ?_
      exact h
    · replace h := h.1 (Decidable.not_not.mp hc)
      refine e_next (pc' := 59) rfl rfl ?_
      refine e_next (pc' := 60) rfl rfl ?_
      refine e_getR (pc' := 63) rfl rfl (hs.o rfl) (hs.a rfl) ?_
      refine e_getR (pc' := 66) rfl rfl (hs.o rfl) (hs.a rfl) ?_
      refine e_iconst (pc' := 67) rfl rfl kc_0 ?_
      refine e_iald 0 (pc' := 68) rfl rfl (hs.k rfl) rfl (by decide) (by decide) ?_
      refine e_cgI (pc' := 71) rfl (e_sV (as := [_]) (fun _ => rfl) (Or.inl rfl) rfl (hs.o rfl) rfl rfl (Nat.le_of_ble_eq_true rfl) (Nat.le_of_ble_eq_true rfl) rfl) ?_
      refine qev.mono h (fun v g1 I3 J2 h => ?_)
      obtain ⟨r3, rfl, h⟩ := h
      refine ⟨r3, rfl, ?_⟩
      obtain ⟨hs, h⟩ := h
      refine e_next (pc' := 72) rfl rfl ?_
      refine e_iinc (pc' := 75) (ls' := [_, _, _, _, _]) (v := (nI 1)) rfl rfl kc_1 rfl rfl ?_
      refine e_next (pc' := 28) rfl rfl ?_
      exact h
theorem w115 {d : Nat} {x1 : Int32} {g : qG} {I : qI} {J : qJ} {Q : qQ} (hs : qSh g)  (h : ((x1 < 0 → Q (some (.int (-1))) g I J) ∧ (¬ x1 < 0 → ((x1 < (nI 6) → ∃ k1, x1 = nI k1 ∧ k1 < 6 ∧ Q (some (.int (I 104 k1))) g I J) ∧ (¬ x1 < (nI 6) → Q (some (.int (-1))) g I J))))) : qC d 115 [.ref 4, .int x1] g I J Q := by
  show qev d 115 (0, [.ref 4, .int x1], [], g, I, J) Q
  refine e_next (pc' := 1) rfl rfl ?_
  refine e_if (x1 < 0) (pc' := 4) rfl rfl e_d (fun hc => ?_) (fun hc => ?_)
  · replace h := h.1 hc
    refine e_iconst (pc' := 11) rfl rfl kc_m1 ?_
    refine e_next (pc' := 20) rfl rfl ?_
    exact e_iret rfl h
  · replace h := h.2 hc
    refine e_next (pc' := 5) rfl rfl ?_
    refine e_bipush (pc' := 7) rfl rfl kb_6 ?_
    refine e_icmp (x1 < (nI 6)) (pc' := 10) rfl rfl e_d (fun hc => ?_) (fun hc => ?_)
    · replace h := h.1 hc
      refine e_next (pc' := 15) rfl rfl ?_
      refine e_getR (pc' := 18) rfl rfl (hs.o rfl) (hs.a rfl) ?_
      refine e_next (pc' := 19) rfl rfl ?_
      obtain ⟨k1, hi_k1, hj_k1, h⟩ := h
      refine e_iald k1 (pc' := 20) rfl rfl (hs.k rfl) hi_k1 hj_k1 (by decide) ?_
      exact e_iret rfl h
    · replace h := h.2 hc
      refine e_iconst (pc' := 11) rfl rfl kc_m1 ?_
      refine e_next (pc' := 20) rfl rfl ?_
      exact e_iret rfl h
theorem w116 {d : Nat}  {g : qG} {I : qI} {J : qJ} {Q : qQ} (hs : qSh g)  (h : qC d 40 [.ref 101, .ref 89] g I J (fun v _ I1 _ => ∃ r1, v = some (.int r1) ∧ Q (some (.int r1)) g I1 J)) : qC (d + 1) 116 [.ref 4] g I J Q := by
  show qev (d + 1) 116 (0, [.ref 4], [], g, I, J) Q
  refine e_next (pc' := 1) rfl rfl ?_
  refine e_getR (pc' := 4) rfl rfl (hs.o rfl) (hs.a rfl) ?_
  refine e_next (pc' := 5) rfl rfl ?_
  refine e_getR (pc' := 8) rfl rfl (hs.o rfl) (hs.a rfl) ?_
  refine e_ciI (pc' := 11) rfl (e_sV (as := [_]) (fun _ => rfl) (Or.inl rfl) rfl (hs.o rfl) rfl rfl (Nat.le_of_ble_eq_true rfl) (Nat.le_of_ble_eq_true rfl) rfl) rfl rfl ?_
  refine qev.mono h (fun v _ I1 _ h => ?_)
  obtain ⟨r1, rfl, h⟩ := h
  refine ⟨r1, rfl, ?_⟩
  exact e_iret rfl h
theorem w117 {d : Nat} {x1 : Int32} {x2 : Int32} {g : qG} {I : qI} {J : qJ} {Q : qQ} (hs : qSh g)  (h : qC d 86 [.ref 89, .int x1, .int x2] g I J (fun v _ _ _ => ∃ r1, v = some (.int r1) ∧ Q (some (.int r1)) g I J)) : qC (d + 1) 117 [.ref 4, .int x1, .int x2] g I J Q := by
  show qev (d + 1) 117 (0, [.ref 4, .int x1, .int x2], [], g, I, J) Q
  refine e_next (pc' := 1) rfl rfl ?_
  refine e_getR (pc' := 4) rfl rfl (hs.o rfl) (hs.a rfl) ?_
  refine e_next (pc' := 5) rfl rfl ?_
  refine e_next (pc' := 6) rfl rfl ?_
  refine e_cpI (pc' := 9) rfl (e_sV (as := [_, _]) (fun _ => rfl) (Or.inl rfl) rfl (hs.o rfl) rfl rfl (Nat.le_of_ble_eq_true rfl) (Nat.le_of_ble_eq_true rfl) rfl) rfl rfl rfl ?_
  refine qev.mono h (fun v _ _ _ h => ?_)
  obtain ⟨r1, rfl, h⟩ := h
  refine ⟨r1, rfl, ?_⟩
  exact e_iret rfl h
theorem w118 {d : Nat} {x1 : Int32} {x2 : Int32} {g : qG} {I : qI} {J : qJ} {Q : qQ} (hs : qSh g)  (h : qC d 135 [.ref 4, .int x1] g I J (fun v _ _ _ => ∃ r1, v = some (.int r1) ∧ qC d 135 [.ref 4, .int x2] g I J (fun v _ _ _ => ∃ r2, v = some (.int r2) ∧ (((qmin r1 r2) = 0 → Q (some (.int (-1))) g I J) ∧ (¬ (qmin r1 r2) = 0 → qev (d + 1) 118 (23, [.ref 4, .int x1, .int x2, .int (qmin r1 r2), .int (nI 0)], [], g, I, J) Q))))) : qC (d + 1) 118 [.ref 4, .int x1, .int x2] g I J Q := by
  show qev (d + 1) 118 (0, [.ref 4, .int x1, .int x2, qpad, qpad], [], g, I, J) Q
  refine e_next (pc' := 1) rfl rfl ?_
  refine e_next (pc' := 2) rfl rfl ?_
  refine e_cpI (pc' := 5) rfl (e_sV (as := [_]) (fun _ => rfl) (Or.inl rfl) rfl (hs.o rfl) rfl rfl (Nat.le_of_ble_eq_true rfl) (Nat.le_of_ble_eq_true rfl) rfl) rfl rfl rfl ?_
  refine qev.mono h (fun v _ _ _ h => ?_)
  obtain ⟨r1, rfl, h⟩ := h
  refine ⟨r1, rfl, ?_⟩
  refine e_next (pc' := 6) rfl rfl ?_
  refine e_next (pc' := 7) rfl rfl ?_
  refine e_cpI (pc' := 10) rfl (e_sV (as := [_]) (fun _ => rfl) (Or.inl rfl) rfl (hs.o rfl) rfl rfl (Nat.le_of_ble_eq_true rfl) (Nat.le_of_ble_eq_true rfl) rfl) rfl rfl rfl ?_
  refine qev.mono h (fun v _ _ _ h => ?_)
  obtain ⟨r2, rfl, h⟩ := h
  refine ⟨r2, rfl, ?_⟩
  refine e_min (pc' := 13) rfl rfl (Nat.le_of_ble_eq_true rfl) ?_
  refine e_next (pc' := 14) (ls' := [_, _, _, _, _]) rfl rfl ?_
  refine e_next (pc' := 15) rfl rfl ?_
  refine e_if (¬ (qmin r1 r2) = 0) (pc' := 18) rfl rfl e_d (fun hc => ?_) (fun hc => ?_)
  · replace h := h.2 hc
    refine e_iconst (pc' := 21) rfl rfl kc_0 ?_
    refine e_next (pc' := 23) (ls' := [_, _, _, _, _]) rfl rfl ?_
    exact h
  · replace h := h.1 (Decidable.not_not.mp hc)
    refine e_iconst (pc' := 19) rfl rfl kc_m1 ?_
    exact e_iret rfl h
theorem w118_23 {d : Nat} {i1 : Int32} {i2 : Int32} {i3 : Int32} {i4 : Int32} {g : qG} {I : qI} {J : qJ} {Q : qQ} (hs : qSh g)  (h : ((i3 ≤ i4 → Q (some (.int i4)) g I J) ∧ (¬ i3 ≤ i4 → qC d 81 [.ref 89, .int i1, .int i4] g I J (fun v _ _ _ => ∃ r1, v = some (.int r1) ∧ qC d 81 [.ref 89, .int i2, .int i4] g I J (fun v _ _ _ => ∃ r2, v = some (.int r2) ∧ ((r1 = r2 → qev (d + 1) 118 (23, [.ref 4, .int i1, .int i2, .int i3, .int (i4 + (nI 1))], [], g, I, J) Q) ∧ (¬ r1 = r2 → Q (some (.int i4)) g I J))))))) : qev (d + 1) 118 (23, [.ref 4, .int i1, .int i2, .int i3, .int i4], [], g, I, J) Q := by
  refine e_next (pc' := 25) rfl rfl ?_
  refine e_next (pc' := 26) rfl rfl ?_
  refine e_icmp (i3 ≤ i4) (pc' := 29) rfl rfl e_d (fun hc => ?_) (fun hc => ?_)
  · replace h := h.1 hc
    refine e_next (pc' := 60) rfl rfl ?_
    exact e_iret rfl h
  · replace h := h.2 hc
    refine e_next (pc' := 30) rfl rfl ?_
    refine e_getR (pc' := 33) rfl rfl (hs.o rfl) (hs.a rfl) ?_
    refine e_next (pc' := 34) rfl rfl ?_
    refine e_next (pc' := 36) rfl rfl ?_
    refine e_cpI (pc' := 39) rfl (e_sV (as := [_, _]) (fun _ => rfl) (Or.inl rfl) rfl (hs.o rfl) rfl rfl (Nat.le_of_ble_eq_true rfl) (Nat.le_of_ble_eq_true rfl) rfl) rfl rfl rfl ?_
    refine qev.mono h (fun v _ _ _ h => ?_)
    obtain ⟨r1, rfl, h⟩ := h
    refine ⟨r1, rfl, ?_⟩
    refine e_next (pc' := 40) rfl rfl ?_
    refine e_getR (pc' := 43) rfl rfl (hs.o rfl) (hs.a rfl) ?_
    refine e_next (pc' := 44) rfl rfl ?_
    refine e_next (pc' := 46) rfl rfl ?_
    refine e_cpI (pc' := 49) rfl (e_sV (as := [_, _]) (fun _ => rfl) (Or.inl rfl) rfl (hs.o rfl) rfl rfl (Nat.le_of_ble_eq_true rfl) (Nat.le_of_ble_eq_true rfl) rfl) rfl rfl rfl ?_
    refine qev.mono h (fun v _ _ _ h => ?_)
    obtain ⟨r2, rfl, h⟩ := h
    refine ⟨r2, rfl, ?_⟩
    refine e_icmp (¬ r1 = r2) (pc' := 52) rfl rfl e_d (fun hc => ?_) (fun hc => ?_)
    · replace h := h.2 hc
      refine e_next (pc' := 60) rfl rfl ?_
      exact e_iret rfl h
    · replace h := h.1 (Decidable.not_not.mp hc)
      refine e_iinc (pc' := 55) (ls' := [_, _, _, _, _]) (v := (nI 1)) rfl rfl kc_1 rfl rfl ?_
      refine e_next (pc' := 23) rfl rfl ?_
      exact h
theorem w119 {d : Nat} {x1 : Int32} {x2 : Int32} {g : qG} {I : qI} {J : qJ} {Q : qQ} (hs : qSh g)  (h : qC d 135 [.ref 4, .int x1] g I J (fun v _ _ _ => ∃ r1, v = some (.int r1) ∧ ((r1 = 0 → Q (some (.int (-1))) g I J) ∧ (¬ r1 = 0 → ((x2 < 0 → Q (some (.int (-1))) g I J) ∧ (¬ x2 < 0 → ((x2 ≤ (nI 996) → qC d 82 [.ref 89, .int x1, .ref 87] g I J (fun v _ I1 _ => v = none ∧ qC d 23 [.ref 12, .ref 87, .int x2] g I1 J (fun v _ _ _ => ∃ r2, v = some (.int r2) ∧ Q (some (.int r2)) g I1 J))) ∧ (¬ x2 ≤ (nI 996) → Q (some (.int (-1))) g I J)))))))) : qC (d + 1) 119 [.ref 4, .int x1, .int x2] g I J Q := by
  show qev (d + 1) 119 (0, [.ref 4, .int x1, .int x2], [], g, I, J) Q
  refine e_next (pc' := 1) rfl rfl ?_
  refine e_next (pc' := 2) rfl rfl ?_
  refine e_cpI (pc' := 5) rfl (e_sV (as := [_]) (fun _ => rfl) (Or.inl rfl) rfl (hs.o rfl) rfl rfl (Nat.le_of_ble_eq_true rfl) (Nat.le_of_ble_eq_true rfl) rfl) rfl rfl rfl ?_
  refine qev.mono h (fun v _ _ _ h => ?_)
  obtain ⟨r1, rfl, h⟩ := h
  refine ⟨r1, rfl, ?_⟩
  refine e_if (r1 = 0) (pc' := 8) rfl rfl e_d (fun hc => ?_) (fun hc => ?_)
  · replace h := h.1 hc
    refine e_iconst (pc' := 20) rfl rfl kc_m1 ?_
    exact e_iret rfl h
  · replace h := h.2 hc
    refine e_next (pc' := 9) rfl rfl ?_
    refine e_if (x2 < 0) (pc' := 12) rfl rfl e_d (fun hc => ?_) (fun hc => ?_)
    · replace h := h.1 hc
      refine e_iconst (pc' := 20) rfl rfl kc_m1 ?_
      exact e_iret rfl h
    · replace h := h.2 hc
      refine e_next (pc' := 13) rfl rfl ?_
      refine e_sipush (pc' := 16) rfl rfl ks_996 ?_
      refine e_icmp (x2 ≤ (nI 996)) (pc' := 19) rfl rfl e_d (fun hc => ?_) (fun hc => ?_)
      · replace h := h.1 hc
        refine e_next (pc' := 22) rfl rfl ?_
        refine e_getR (pc' := 25) rfl rfl (hs.o rfl) (hs.a rfl) ?_
        refine e_next (pc' := 26) rfl rfl ?_
        refine e_next (pc' := 27) rfl rfl ?_
        refine e_getR (pc' := 30) rfl rfl (hs.o rfl) (hs.a rfl) ?_
        refine e_ciV (pc' := 33) rfl (e_sV (as := [_, _]) (fun _ => rfl) (Or.inl rfl) rfl (hs.o rfl) rfl rfl (Nat.le_of_ble_eq_true rfl) (Nat.le_of_ble_eq_true rfl) rfl) rfl rfl ?_
        refine qev.mono h (fun v _ I1 _ h => ?_)
        obtain ⟨rfl, h⟩ := h
        refine ⟨rfl, ?_⟩
        refine e_next (pc' := 34) rfl rfl ?_
        refine e_getR (pc' := 37) rfl rfl (hs.o rfl) (hs.a rfl) ?_
        refine e_next (pc' := 38) rfl rfl ?_
        refine e_getR (pc' := 41) rfl rfl (hs.o rfl) (hs.a rfl) ?_
        refine e_next (pc' := 42) rfl rfl ?_
        refine e_cpI (pc' := 45) rfl (e_sV (as := [_, _]) (fun _ => rfl) (Or.inl rfl) rfl (hs.o rfl) rfl rfl (Nat.le_of_ble_eq_true rfl) (Nat.le_of_ble_eq_true rfl) rfl) rfl rfl rfl ?_
        refine qev.mono h (fun v _ _ _ h => ?_)
        obtain ⟨r2, rfl, h⟩ := h
        refine ⟨r2, rfl, ?_⟩
        exact e_iret rfl h
      · replace h := h.2 hc
        refine e_iconst (pc' := 20) rfl rfl kc_m1 ?_
        exact e_iret rfl h
theorem w120 {d : Nat} {x1 : Int32} {x2 : Int32} {x3 : Int32} {g : qG} {I : qI} {J : qJ} {Q : qQ} (hs : qSh g)  (h : qC d 135 [.ref 4, .int x1] g I J (fun v _ _ _ => ∃ r1, v = some (.int r1) ∧ ((r1 = 0 → Q (some (.int (-1))) g I J) ∧ (¬ r1 = 0 → ((x2 < 0 → Q (some (.int (-1))) g I J) ∧ (¬ x2 < 0 → (((nI 4) < x2 → Q (some (.int (-1))) g I J) ∧ (¬ (nI 4) < x2 → qC d 81 [.ref 89, .int x1, .int (nI 0)] g I J (fun v _ _ _ => ∃ r2, v = some (.int r2) ∧ ((r2 = 0 → Q (some (.int (-1))) g I J) ∧ (¬ r2 = 0 → ∃ k1, x1 = nI k1 ∧ k1 < 8 ∧ ((x3 = (-1) → Q (some (.int (qmin (qshl (nI 1) x2) (I 90 k1)))) g I J) ∧ (¬ x3 = (-1) → ((x3 < 0 → Q (some (.int (-1))) g I J) ∧ (¬ x3 < 0 → ((x3 < (qmin (qshl (nI 1) x2) (I 90 k1)) → qC d 82 [.ref 89, .int x1, .ref 87] g I J (fun v _ I1 _ => v = none ∧ qC d 11 [.ref 12, .ref 87] g (qw I1 87 1 (qmin (qshl (nI 1) x2) (I 90 k1))) J (fun v _ I2 _ => v = none ∧ ∃ k2, x3 = nI k2 ∧ k2 < 24 ∧ Q (some (.int (I2 88 k2))) g I2 J))) ∧ (¬ x3 < (qmin (qshl (nI 1) x2) (I 90 k1)) → Q (some (.int (-1))) g I J))))))))))))))))) : qC (d + 1) 120 [.ref 4, .int x1, .int x2, .int x3] g I J Q := by
  show qev (d + 1) 120 (0, [.ref 4, .int x1, .int x2, .int x3, qpad], [], g, I, J) Q
  refine e_next (pc' := 1) rfl rfl ?_
  refine e_next (pc' := 2) rfl rfl ?_
  refine e_cpI (pc' := 5) rfl (e_sV (as := [_]) (fun _ => rfl) (Or.inl rfl) rfl (hs.o rfl) rfl rfl (Nat.le_of_ble_eq_true rfl) (Nat.le_of_ble_eq_true rfl) rfl) rfl rfl rfl ?_
  refine qev.mono h (fun v _ _ _ h => ?_)
  obtain ⟨r1, rfl, h⟩ := h
  refine ⟨r1, rfl, ?_⟩
  refine e_if (r1 = 0) (pc' := 8) rfl rfl e_d (fun hc => ?_) (fun hc => ?_)
  · replace h := h.1 hc
    refine e_iconst (pc' := 30) rfl rfl kc_m1 ?_
    exact e_iret rfl h
  · replace h := h.2 hc
    refine e_next (pc' := 9) rfl rfl ?_
    refine e_if (x2 < 0) (pc' := 12) rfl rfl e_d (fun hc => ?_) (fun hc => ?_)
    · replace h := h.1 hc
      refine e_iconst (pc' := 30) rfl rfl kc_m1 ?_
      exact e_iret rfl h
    · replace h := h.2 hc
      refine e_next (pc' := 13) rfl rfl ?_
      refine e_iconst (pc' := 14) rfl rfl kc_4 ?_
      refine e_icmp ((nI 4) < x2) (pc' := 17) rfl rfl e_d (fun hc => ?_) (fun hc => ?_)
      · replace h := h.1 hc
        refine e_iconst (pc' := 30) rfl rfl kc_m1 ?_
        exact e_iret rfl h
      · replace h := h.2 hc
        refine e_next (pc' := 18) rfl rfl ?_
        refine e_getR (pc' := 21) rfl rfl (hs.o rfl) (hs.a rfl) ?_
        refine e_next (pc' := 22) rfl rfl ?_
        refine e_iconst (pc' := 23) rfl rfl kc_0 ?_
        refine e_cpI (pc' := 26) rfl (e_sV (as := [_, _]) (fun _ => rfl) (Or.inl rfl) rfl (hs.o rfl) rfl rfl (Nat.le_of_ble_eq_true rfl) (Nat.le_of_ble_eq_true rfl) rfl) rfl rfl rfl ?_
        refine qev.mono h (fun v _ _ _ h => ?_)
        obtain ⟨r2, rfl, h⟩ := h
        refine ⟨r2, rfl, ?_⟩
        refine e_if (¬ r2 = 0) (pc' := 29) rfl rfl e_d (fun hc => ?_) (fun hc => ?_)
        · replace h := h.2 hc
          refine e_iconst (pc' := 32) rfl rfl kc_1 ?_
          refine e_next (pc' := 33) rfl rfl ?_
          refine e_next (pc' := 34) rfl rfl ?_
          refine e_next (pc' := 35) rfl rfl ?_
          refine e_getR (pc' := 38) rfl rfl (hs.o rfl) (hs.a rfl) ?_
          refine e_getR (pc' := 41) rfl rfl (hs.o rfl) (hs.a rfl) ?_
          refine e_next (pc' := 42) rfl rfl ?_
          obtain ⟨k1, hi_k1, hj_k1, h⟩ := h
          refine e_iald k1 (pc' := 43) rfl rfl (hs.k rfl) hi_k1 hj_k1 (by decide) ?_
          refine e_min (pc' := 46) rfl rfl (Nat.le_of_ble_eq_true rfl) ?_
          refine e_next (pc' := 48) (ls' := [_, _, _, _, _]) rfl rfl ?_
          refine e_next (pc' := 49) rfl rfl ?_
          refine e_iconst (pc' := 50) rfl rfl kc_m1 ?_
          refine e_icmp (¬ x3 = (-1)) (pc' := 53) rfl rfl e_d (fun hc => ?_) (fun hc => ?_)
          · replace h := h.2 hc
            refine e_next (pc' := 57) rfl rfl ?_
            refine e_if (x3 < 0) (pc' := 60) rfl rfl e_d (fun hc => ?_) (fun hc => ?_)
            · replace h := h.1 hc
              refine e_iconst (pc' := 67) rfl rfl kc_m1 ?_
              exact e_iret rfl h
            · replace h := h.2 hc
              refine e_next (pc' := 61) rfl rfl ?_
              refine e_next (pc' := 63) rfl rfl ?_
              refine e_icmp (x3 < (qmin (qshl (nI 1) x2) (I 90 k1))) (pc' := 66) rfl rfl e_d (fun hc => ?_) (fun hc => ?_)
              · replace h := h.1 hc
                refine e_next (pc' := 69) rfl rfl ?_
                refine e_getR (pc' := 72) rfl rfl (hs.o rfl) (hs.a rfl) ?_
                refine e_next (pc' := 73) rfl rfl ?_
                refine e_next (pc' := 74) rfl rfl ?_
                refine e_getR (pc' := 77) rfl rfl (hs.o rfl) (hs.a rfl) ?_
                refine e_ciV (pc' := 80) rfl (e_sV (as := [_, _]) (fun _ => rfl) (Or.inl rfl) rfl (hs.o rfl) rfl rfl (Nat.le_of_ble_eq_true rfl) (Nat.le_of_ble_eq_true rfl) rfl) rfl rfl ?_
                refine qev.mono h (fun v _ I1 _ h => ?_)
                obtain ⟨rfl, h⟩ := h
                refine ⟨rfl, ?_⟩
                refine e_next (pc' := 81) rfl rfl ?_
                refine e_getR (pc' := 84) rfl rfl (hs.o rfl) (hs.a rfl) ?_
                refine e_next (pc' := 86) rfl rfl ?_
                refine e_putI (pc' := 89) rfl rfl (hs.o rfl) ?_
                refine e_next (pc' := 90) rfl rfl ?_
                refine e_getR (pc' := 93) rfl rfl (hs.o rfl) (hs.a rfl) ?_
                refine e_next (pc' := 94) rfl rfl ?_
                refine e_getR (pc' := 97) rfl rfl (hs.o rfl) (hs.a rfl) ?_
                refine e_ciV (pc' := 100) rfl (e_sV (as := [_]) (fun _ => rfl) (Or.inl rfl) rfl (hs.o rfl) rfl rfl (Nat.le_of_ble_eq_true rfl) (Nat.le_of_ble_eq_true rfl) rfl) rfl rfl ?_
                refine qev.mono h (fun v _ I2 _ h => ?_)
                obtain ⟨rfl, h⟩ := h
                refine ⟨rfl, ?_⟩
                refine e_next (pc' := 101) rfl rfl ?_
                refine e_getR (pc' := 104) rfl rfl (hs.o rfl) (hs.a rfl) ?_
                refine e_getR (pc' := 107) rfl rfl (hs.o rfl) (hs.a rfl) ?_
                refine e_next (pc' := 108) rfl rfl ?_
                obtain ⟨k2, hi_k2, hj_k2, h⟩ := h
                refine e_iald k2 (pc' := 109) rfl rfl (hs.k rfl) hi_k2 hj_k2 (by decide) ?_
                exact e_iret rfl h
              · replace h := h.2 hc
                refine e_iconst (pc' := 67) rfl rfl kc_m1 ?_
                exact e_iret rfl h
          · replace h := h.1 (Decidable.not_not.mp hc)
            refine e_next (pc' := 55) rfl rfl ?_
            exact e_iret rfl h
        · replace h := h.1 (Decidable.not_not.mp hc)
          refine e_iconst (pc' := 30) rfl rfl kc_m1 ?_
          exact e_iret rfl h
theorem w121 {d : Nat} {x1 : Int32} {x2 : Int32} {x3 : Int32} {x4 : Int32} {x5 : Int32} {x6 : Int32} {g : qG} {I : qI} {J : qJ} {Q : qQ} (hs : qSh g)  (h : qC d 143 [.ref 4, .int x1, .int x2, .int x3, .int x4] g I J (fun v _ I1 _ => ∃ r1, v = some (.int r1) ∧ ((r1 = 0 → Q (some (.int (-1))) g I1 J) ∧ (¬ r1 = 0 → ((x5 < 0 → Q (some (.int (-1))) g I1 J) ∧ (¬ x5 < 0 → ((x5 < (I1 12 7) → qC d 27 [.ref 12, .int x5] g I1 J (fun v _ _ _ => ∃ r2, v = some (.int r2) ∧ ((r2 = 0 → Q (some (.int (-1))) g I1 J) ∧ (¬ r2 = 0 → qC d 26 [.ref 12] g I1 J (fun v _ _ _ => ∃ r3, v = some (.int r3) ∧ ((x6 = (-1) → Q (some (.int r3)) g I1 J) ∧ (¬ x6 = (-1) → ((x6 < 0 → Q (some (.int (-1))) g I1 J) ∧ (¬ x6 < 0 → ((x6 < r3 → qC d 28 [.ref 12, .int x5, .int r3] g I1 J (fun v _ I2 _ => ∃ r4, v = some (va_rf r4) ∧ ∃ b1, r4 = some b1 ∧ qSer g b1 ∧ ∃ k1, x6 = nI k1 ∧ k1 < 24 ∧ Q (some (.int (I2 (b1 + 1) k1))) g I2 J)) ∧ (¬ x6 < r3 → Q (some (.int (-1))) g I1 J))))))))))) ∧ (¬ x5 < (I1 12 7) → Q (some (.int (-1))) g I1 J)))))))) : qC (d + 1) 121 [.ref 4, .int x1, .int x2, .int x3, .int x4, .int x5, .int x6] g I J Q := by
  show qev (d + 1) 121 (0, [.ref 4, .int x1, .int x2, .int x3, .int x4, .int x5, .int x6, qpad], [], g, I, J) Q
  refine e_next (pc' := 1) rfl rfl ?_
  refine e_next (pc' := 2) rfl rfl ?_
  refine e_next (pc' := 3) rfl rfl ?_
  refine e_next (pc' := 4) rfl rfl ?_
  refine e_next (pc' := 6) rfl rfl ?_
  refine e_ciI (pc' := 9) rfl (e_sV (as := [_, _, _, _]) (fun _ => rfl) (Or.inl rfl) rfl (hs.o rfl) rfl rfl (Nat.le_of_ble_eq_true rfl) (Nat.le_of_ble_eq_true rfl) rfl) rfl rfl ?_
  refine qev.mono h (fun v _ I1 _ h => ?_)
  obtain ⟨r1, rfl, h⟩ := h
  refine ⟨r1, rfl, ?_⟩
  refine e_if (r1 = 0) (pc' := 12) rfl rfl e_d (fun hc => ?_) (fun hc => ?_)
  · replace h := h.1 hc
    refine e_iconst (pc' := 30) rfl rfl kc_m1 ?_
    exact e_iret rfl h
  · replace h := h.2 hc
    refine e_next (pc' := 14) rfl rfl ?_
    refine e_if (x5 < 0) (pc' := 17) rfl rfl e_d (fun hc => ?_) (fun hc => ?_)
    · replace h := h.1 hc
      refine e_iconst (pc' := 30) rfl rfl kc_m1 ?_
      exact e_iret rfl h
    · replace h := h.2 hc
      refine e_next (pc' := 19) rfl rfl ?_
      refine e_next (pc' := 20) rfl rfl ?_
      refine e_getR (pc' := 23) rfl rfl (hs.o rfl) (hs.a rfl) ?_
      refine e_getI (pc' := 26) rfl (Or.inl rfl) rfl (hs.o rfl) ?_
      refine e_icmp (x5 < (I1 12 7)) (pc' := 29) rfl rfl e_d (fun hc => ?_) (fun hc => ?_)
      · replace h := h.1 hc
        refine e_next (pc' := 32) rfl rfl ?_
        refine e_getR (pc' := 35) rfl rfl (hs.o rfl) (hs.a rfl) ?_
        refine e_next (pc' := 37) rfl rfl ?_
        refine e_cpI (pc' := 40) rfl (e_sV (as := [_]) (fun _ => rfl) (Or.inl rfl) rfl (hs.o rfl) rfl rfl (Nat.le_of_ble_eq_true rfl) (Nat.le_of_ble_eq_true rfl) rfl) rfl rfl rfl ?_
        refine qev.mono h (fun v _ _ _ h => ?_)
        obtain ⟨r2, rfl, h⟩ := h
        refine ⟨r2, rfl, ?_⟩
        refine e_if (¬ r2 = 0) (pc' := 43) rfl rfl e_d (fun hc => ?_) (fun hc => ?_)
        · replace h := h.2 hc
          refine e_next (pc' := 46) rfl rfl ?_
          refine e_getR (pc' := 49) rfl rfl (hs.o rfl) (hs.a rfl) ?_
          refine e_cpI (pc' := 52) rfl (e_sV (as := []) (fun _ => rfl) (Or.inl rfl) rfl (hs.o rfl) rfl rfl (Nat.le_of_ble_eq_true rfl) (Nat.le_of_ble_eq_true rfl) rfl) rfl rfl rfl ?_
          refine qev.mono h (fun v _ _ _ h => ?_)
          obtain ⟨r3, rfl, h⟩ := h
          refine ⟨r3, rfl, ?_⟩
          refine e_next (pc' := 54) (ls' := [_, _, _, _, _, _, _, _]) rfl rfl ?_
          refine e_next (pc' := 56) rfl rfl ?_
          refine e_iconst (pc' := 57) rfl rfl kc_m1 ?_
          refine e_icmp (¬ x6 = (-1)) (pc' := 60) rfl rfl e_d (fun hc => ?_) (fun hc => ?_)
          · replace h := h.2 hc
            refine e_next (pc' := 65) rfl rfl ?_
            refine e_if (x6 < 0) (pc' := 68) rfl rfl e_d (fun hc => ?_) (fun hc => ?_)
            · replace h := h.1 hc
              refine e_iconst (pc' := 76) rfl rfl kc_m1 ?_
              exact e_iret rfl h
            · replace h := h.2 hc
              refine e_next (pc' := 70) rfl rfl ?_
              refine e_next (pc' := 72) rfl rfl ?_
              refine e_icmp (x6 < r3) (pc' := 75) rfl rfl e_d (fun hc => ?_) (fun hc => ?_)
              · replace h := h.1 hc
                refine e_next (pc' := 78) rfl rfl ?_
                refine e_getR (pc' := 81) rfl rfl (hs.o rfl) (hs.a rfl) ?_
                refine e_next (pc' := 83) rfl rfl ?_
                refine e_next (pc' := 85) rfl rfl ?_
                refine e_ciA (pc' := 88) rfl (e_sV (as := [_, _]) (fun _ => rfl) (Or.inl rfl) rfl (hs.o rfl) rfl rfl (Nat.le_of_ble_eq_true rfl) (Nat.le_of_ble_eq_true rfl) rfl) rfl rfl ?_
                refine qev.mono h (fun v _ I2 _ h => ?_)
                obtain ⟨r4, rfl, h⟩ := h
                refine ⟨r4, rfl, ?_⟩
                obtain ⟨b1, hc_b1, h_b1, h⟩ := h
                subst hc_b1
                refine e_getR (pc' := 91) rfl rfl h_b1.o h_b1.a0 ?_
                refine e_next (pc' := 93) rfl rfl ?_
                obtain ⟨k1, hi_k1, hj_k1, h⟩ := h
                refine e_iald k1 (pc' := 94) rfl rfl h_b1.k0 hi_k1 hj_k1 (by decide) ?_
                exact e_iret rfl h
              · replace h := h.2 hc
                refine e_iconst (pc' := 76) rfl rfl kc_m1 ?_
                exact e_iret rfl h
          · replace h := h.1 (Decidable.not_not.mp hc)
            refine e_next (pc' := 62) rfl rfl ?_
            exact e_iret rfl h
        · replace h := h.1 (Decidable.not_not.mp hc)
          refine e_iconst (pc' := 44) rfl rfl kc_m1 ?_
          exact e_iret rfl h
      · replace h := h.2 hc
        refine e_iconst (pc' := 30) rfl rfl kc_m1 ?_
        exact e_iret rfl h
theorem w122 {d : Nat} {x1 : Int32} {x2 : Int32} {x3 : Int32} {x4 : Int32} {x5 : Int32} {g : qG} {I : qI} {J : qJ} {Q : qQ} (hs : qSh g)  (h : ((x5 < 0 → Q (some (.int (-1000000))) g I J) ∧ (¬ x5 < 0 → (((nI 1) < x5 → Q (some (.int (-1000000))) g I J) ∧ (¬ (nI 1) < x5 → qC d 143 [.ref 4, .int x1, .int x2, .int x3, .int x4] g I J (fun v _ I1 _ => ∃ r1, v = some (.int r1) ∧ ((r1 = 0 → Q (some (.int (-1000000))) g I1 J) ∧ (¬ r1 = 0 → qev (d + 1) 122 (43, [.ref 4, .int x1, .int x2, .int x3, .int x4, .int x5, .int (nI 0), .int (-1), .int ((I1 12 7) - (nI 1))], [], g, I1, J) Q)))))))) : qC (d + 1) 122 [.ref 4, .int x1, .int x2, .int x3, .int x4, .int x5] g I J Q := by
  show qev (d + 1) 122 (0, [.ref 4, .int x1, .int x2, .int x3, .int x4, .int x5, qpad, qpad, qpad], [], g, I, J) Q
  refine e_next (pc' := 2) rfl rfl ?_
  refine e_if (x5 < 0) (pc' := 5) rfl rfl e_d (fun hc => ?_) (fun hc => ?_)
  · replace h := h.1 hc
    refine e_ldc (pc' := 25) rfl rfl kn_4293967296 ?_
    exact e_iret rfl h
  · replace h := h.2 hc
    refine e_next (pc' := 7) rfl rfl ?_
    refine e_iconst (pc' := 8) rfl rfl kc_1 ?_
    refine e_icmp ((nI 1) < x5) (pc' := 11) rfl rfl e_d (fun hc => ?_) (fun hc => ?_)
    · replace h := h.1 hc
      refine e_ldc (pc' := 25) rfl rfl kn_4293967296 ?_
      exact e_iret rfl h
    · replace h := h.2 hc
      refine e_next (pc' := 12) rfl rfl ?_
      refine e_next (pc' := 13) rfl rfl ?_
      refine e_next (pc' := 14) rfl rfl ?_
      refine e_next (pc' := 15) rfl rfl ?_
      refine e_next (pc' := 17) rfl rfl ?_
      refine e_ciI (pc' := 20) rfl (e_sV (as := [_, _, _, _]) (fun _ => rfl) (Or.inl rfl) rfl (hs.o rfl) rfl rfl (Nat.le_of_ble_eq_true rfl) (Nat.le_of_ble_eq_true rfl) rfl) rfl rfl ?_
      refine qev.mono h (fun v _ I1 _ h => ?_)
      obtain ⟨r1, rfl, h⟩ := h
      refine ⟨r1, rfl, ?_⟩
      refine e_if (¬ r1 = 0) (pc' := 23) rfl rfl e_d (fun hc => ?_) (fun hc => ?_)
      · replace h := h.2 hc
        refine e_iconst (pc' := 27) rfl rfl kc_0 ?_
        refine e_next (pc' := 29) (ls' := [_, _, _, _, _, _, _, _, _]) rfl rfl ?_
        refine e_iconst (pc' := 30) rfl rfl kc_m1 ?_
        refine e_next (pc' := 32) (ls' := [_, _, _, _, _, _, _, _, _]) rfl rfl ?_
        refine e_next (pc' := 33) rfl rfl ?_
        refine e_getR (pc' := 36) rfl rfl (hs.o rfl) (hs.a rfl) ?_
        refine e_getI (pc' := 39) rfl (Or.inl rfl) rfl (hs.o rfl) ?_
        refine e_iconst (pc' := 40) rfl rfl kc_1 ?_
        refine e_next (pc' := 41) rfl rfl ?_
        refine e_next (pc' := 43) (ls' := [_, _, _, _, _, _, _, _, _]) rfl rfl ?_
        exact h
      · replace h := h.1 (Decidable.not_not.mp hc)
        refine e_ldc (pc' := 25) rfl rfl kn_4293967296 ?_
        exact e_iret rfl h
theorem w122_43 {d : Nat} {i1 : Int32} {i2 : Int32} {i3 : Int32} {i4 : Int32} {i5 : Int32} {i6 : Int32} {i7 : Int32} {i8 : Int32} {g : qG} {I : qI} {J : qJ} {Q : qQ} (hs : qSh g)  (h : ((i8 < 0 → ((i5 = 0 → Q (some (.int i6)) g I J) ∧ (¬ i5 = 0 → Q (some (.int i7)) g I J))) ∧ (¬ i8 < 0 → qC d 27 [.ref 12, .int i8] g I J (fun v _ _ _ => ∃ r1, v = some (.int r1) ∧ ((r1 = 0 → qev (d + 1) 122 (43, [.ref 4, .int i1, .int i2, .int i3, .int i4, .int i5, .int i6, .int i7, .int (i8 + (-1))], [], g, I, J) Q) ∧ (¬ r1 = 0 → qev (d + 1) 122 (43, [.ref 4, .int i1, .int i2, .int i3, .int i4, .int i5, .int (i6 + (nI 1)), .int i8, .int (i8 + (-1))], [], g, I, J) Q)))))) : qev (d + 1) 122 (43, [.ref 4, .int i1, .int i2, .int i3, .int i4, .int i5, .int i6, .int i7, .int i8], [], g, I, J) Q := by
  refine e_next (pc' := 45) rfl rfl ?_
  refine e_if (i8 < 0) (pc' := 48) rfl rfl e_d (fun hc => ?_) (fun hc => ?_)
  · replace h := h.1 hc
    refine e_next (pc' := 75) rfl rfl ?_
    refine e_if (¬ i5 = 0) (pc' := 78) rfl rfl e_d (fun hc => ?_) (fun hc => ?_)
    · replace h := h.2 hc
      refine e_next (pc' := 85) rfl rfl ?_
      exact e_iret rfl h
    · replace h := h.1 (Decidable.not_not.mp hc)
      refine e_next (pc' := 80) rfl rfl ?_
      refine e_next (pc' := 85) rfl rfl ?_
      exact e_iret rfl h
  · replace h := h.2 hc
    refine e_next (pc' := 49) rfl rfl ?_
    refine e_getR (pc' := 52) rfl rfl (hs.o rfl) (hs.a rfl) ?_
    refine e_next (pc' := 54) rfl rfl ?_
    refine e_cpI (pc' := 57) rfl (e_sV (as := [_]) (fun _ => rfl) (Or.inl rfl) rfl (hs.o rfl) rfl rfl (Nat.le_of_ble_eq_true rfl) (Nat.le_of_ble_eq_true rfl) rfl) rfl rfl rfl ?_
    refine qev.mono h (fun v _ _ _ h => ?_)
    obtain ⟨r1, rfl, h⟩ := h
    refine ⟨r1, rfl, ?_⟩
    refine e_if (r1 = 0) (pc' := 60) rfl rfl e_d (fun hc => ?_) (fun hc => ?_)
    · replace h := h.1 hc
      refine e_iinc (pc' := 70) (ls' := [_, _, _, _, _, _, _, _, _]) (v := (-1)) rfl rfl kc_m1 rfl rfl ?_
      refine e_next (pc' := 43) rfl rfl ?_
      exact h
    · replace h := h.2 hc
      refine e_iinc (pc' := 63) (ls' := [_, _, _, _, _, _, _, _, _]) (v := (nI 1)) rfl rfl kc_1 rfl rfl ?_
      refine e_next (pc' := 65) rfl rfl ?_
      refine e_next (pc' := 67) (ls' := [_, _, _, _, _, _, _, _, _]) rfl rfl ?_
      refine e_iinc (pc' := 70) (ls' := [_, _, _, _, _, _, _, _, _]) (v := (-1)) rfl rfl kc_m1 rfl rfl ?_
      refine e_next (pc' := 43) rfl rfl ?_
      exact h
theorem w123 {d : Nat} {x1 : Int32} {x2 : Int32} {g : qG} {I : qI} {J : qJ} {Q : qQ} (hs : qSh g)  (h : qC d 135 [.ref 4, .int x1] g I J (fun v _ _ _ => ∃ r1, v = some (.int r1) ∧ ((r1 = 0 → Q (some (.int (-1))) g I J) ∧ (¬ r1 = 0 → ((0 ≤ x2 → qC d 82 [.ref 89, .int x1, .ref 87] g I J (fun v _ I1 _ => v = none ∧ qC d 69 [.ref 83, .ref 87, .ref 12] g I1 J (fun v g1 I2 J1 => ∃ r2, v = some (.int r2) ∧ qSh g1 ∧ ((r1 < ((nI 2) * r2) → Q (some (.int (-1))) g1 I2 J1) ∧ (¬ r1 < ((nI 2) * r2) → ((x2 ≤ r2 → ((x2 = 0 → Q (some (.int r2)) g1 I2 J1) ∧ (¬ x2 = 0 → qC d 71 [.ref 83, .int x2, .int (I2 12 7)] g1 I2 J1 (fun v _ _ _ => ∃ r3, v = some (.int r3) ∧ Q (some (.int r3)) g1 I2 J1)))) ∧ (¬ x2 ≤ r2 → Q (some (.int (-1))) g1 I2 J1))))))) ∧ (¬ 0 ≤ x2 → Q (some (.int (-1))) g I J)))))) : qC (d + 1) 123 [.ref 4, .int x1, .int x2] g I J Q := by
  show qev (d + 1) 123 (0, [.ref 4, .int x1, .int x2, qpad, qpad], [], g, I, J) Q
  refine e_next (pc' := 1) rfl rfl ?_
  refine e_next (pc' := 2) rfl rfl ?_
  refine e_cpI (pc' := 5) rfl (e_sV (as := [_]) (fun _ => rfl) (Or.inl rfl) rfl (hs.o rfl) rfl rfl (Nat.le_of_ble_eq_true rfl) (Nat.le_of_ble_eq_true rfl) rfl) rfl rfl rfl ?_
  refine qev.mono h (fun v _ _ _ h => ?_)
  obtain ⟨r1, rfl, h⟩ := h
  refine ⟨r1, rfl, ?_⟩
  refine e_next (pc' := 6) (ls' := [_, _, _, _, _]) rfl rfl ?_
  refine e_next (pc' := 7) rfl rfl ?_
  refine e_if (r1 = 0) (pc' := 10) rfl rfl e_d (fun hc => ?_) (fun hc => ?_)
  · replace h := h.1 hc
    refine e_iconst (pc' := 15) rfl rfl kc_m1 ?_
    exact e_iret rfl h
  · replace h := h.2 hc
    refine e_next (pc' := 11) rfl rfl ?_
    refine e_if (0 ≤ x2) (pc' := 14) rfl rfl e_d (fun hc => ?_) (fun hc => ?_)
    · replace h := h.1 hc
      refine e_next (pc' := 17) rfl rfl ?_
      refine e_getR (pc' := 20) rfl rfl (hs.o rfl) (hs.a rfl) ?_
      refine e_next (pc' := 21) rfl rfl ?_
      refine e_next (pc' := 22) rfl rfl ?_
      refine e_getR (pc' := 25) rfl rfl (hs.o rfl) (hs.a rfl) ?_
      refine e_ciV (pc' := 28) rfl (e_sV (as := [_, _]) (fun _ => rfl) (Or.inl rfl) rfl (hs.o rfl) rfl rfl (Nat.le_of_ble_eq_true rfl) (Nat.le_of_ble_eq_true rfl) rfl) rfl rfl ?_
      refine qev.mono h (fun v _ I1 _ h => ?_)
      obtain ⟨rfl, h⟩ := h
      refine ⟨rfl, ?_⟩
      refine e_next (pc' := 29) rfl rfl ?_
      refine e_getR (pc' := 32) rfl rfl (hs.o rfl) (hs.a rfl) ?_
      refine e_next (pc' := 33) rfl rfl ?_
      refine e_getR (pc' := 36) rfl rfl (hs.o rfl) (hs.a rfl) ?_
      refine e_next (pc' := 37) rfl rfl ?_
      refine e_getR (pc' := 40) rfl rfl (hs.o rfl) (hs.a rfl) ?_
      refine e_cgI (pc' := 43) rfl (e_sV (as := [_, _]) (fun _ => rfl) (Or.inl rfl) rfl (hs.o rfl) rfl rfl (Nat.le_of_ble_eq_true rfl) (Nat.le_of_ble_eq_true rfl) rfl) ?_
      refine qev.mono h (fun v g1 I2 J1 h => ?_)
      obtain ⟨r2, rfl, h⟩ := h
      refine ⟨r2, rfl, ?_⟩
      obtain ⟨hs, h⟩ := h
      refine e_next (pc' := 45) (ls' := [_, _, _, _, _]) rfl rfl ?_
      refine e_next (pc' := 46) rfl rfl ?_
      refine e_iconst (pc' := 47) rfl rfl kc_2 ?_
      refine e_next (pc' := 49) rfl rfl ?_
      refine e_next (pc' := 50) rfl rfl ?_
      refine e_icmp (r1 < ((nI 2) * r2)) (pc' := 53) rfl rfl e_d (fun hc => ?_) (fun hc => ?_)
      · replace h := h.1 hc
        refine e_iconst (pc' := 60) rfl rfl kc_m1 ?_
        exact e_iret rfl h
      · replace h := h.2 hc
        refine e_next (pc' := 54) rfl rfl ?_
        refine e_next (pc' := 56) rfl rfl ?_
        refine e_icmp (x2 ≤ r2) (pc' := 59) rfl rfl e_d (fun hc => ?_) (fun hc => ?_)
        · replace h := h.1 hc
          refine e_next (pc' := 62) rfl rfl ?_
          refine e_if (¬ x2 = 0) (pc' := 65) rfl rfl e_d (fun hc => ?_) (fun hc => ?_)
          · replace h := h.2 hc
            refine e_next (pc' := 71) rfl rfl ?_
            refine e_getR (pc' := 74) rfl rfl (hs.o rfl) (hs.a rfl) ?_
            refine e_next (pc' := 75) rfl rfl ?_
            refine e_next (pc' := 76) rfl rfl ?_
            refine e_getR (pc' := 79) rfl rfl (hs.o rfl) (hs.a rfl) ?_
            refine e_getI (pc' := 82) rfl (Or.inl rfl) rfl (hs.o rfl) ?_
            refine e_cpI (pc' := 85) rfl (e_sV (as := [_, _]) (fun _ => rfl) (Or.inl rfl) rfl (hs.o rfl) rfl rfl (Nat.le_of_ble_eq_true rfl) (Nat.le_of_ble_eq_true rfl) rfl) rfl rfl rfl ?_
            refine qev.mono h (fun v _ _ _ h => ?_)
            obtain ⟨r3, rfl, h⟩ := h
            refine ⟨r3, rfl, ?_⟩
            exact e_iret rfl h
          · replace h := h.1 (Decidable.not_not.mp hc)
            refine e_next (pc' := 67) rfl rfl ?_
            refine e_next (pc' := 85) rfl rfl ?_
            exact e_iret rfl h
        · replace h := h.2 hc
          refine e_iconst (pc' := 60) rfl rfl kc_m1 ?_
          exact e_iret rfl h
    · replace h := h.2 hc
      refine e_iconst (pc' := 15) rfl rfl kc_m1 ?_
      exact e_iret rfl h
theorem w124 {d : Nat} {x1 : Int32} {g : qG} {I : qI} {J : qJ} {Q : qQ} (hs : qSh g)  (h : qC d 135 [.ref 4, .int x1] g I J (fun v _ _ _ => ∃ r1, v = some (.int r1) ∧ ((r1 = 0 → Q (some (.int (-1))) g I J) ∧ (¬ r1 = 0 → qC d 82 [.ref 89, .int x1, .ref 87] g I J (fun v _ I1 _ => v = none ∧ qC d 24 [.ref 12, .ref 87] g I1 J (fun v _ I2 _ => ∃ r2, v = some (.int r2) ∧ Q (some (.int r2)) g I2 J)))))) : qC (d + 1) 124 [.ref 4, .int x1] g I J Q := by
  show qev (d + 1) 124 (0, [.ref 4, .int x1], [], g, I, J) Q
  refine e_next (pc' := 1) rfl rfl ?_
  refine e_next (pc' := 2) rfl rfl ?_
  refine e_cpI (pc' := 5) rfl (e_sV (as := [_]) (fun _ => rfl) (Or.inl rfl) rfl (hs.o rfl) rfl rfl (Nat.le_of_ble_eq_true rfl) (Nat.le_of_ble_eq_true rfl) rfl) rfl rfl rfl ?_
  refine qev.mono h (fun v _ _ _ h => ?_)
  obtain ⟨r1, rfl, h⟩ := h
  refine ⟨r1, rfl, ?_⟩
  refine e_if (¬ r1 = 0) (pc' := 8) rfl rfl e_d (fun hc => ?_) (fun hc => ?_)
  · replace h := h.2 hc
    refine e_next (pc' := 11) rfl rfl ?_
    refine e_getR (pc' := 14) rfl rfl (hs.o rfl) (hs.a rfl) ?_
    refine e_next (pc' := 15) rfl rfl ?_
    refine e_next (pc' := 16) rfl rfl ?_
    refine e_getR (pc' := 19) rfl rfl (hs.o rfl) (hs.a rfl) ?_
    refine e_ciV (pc' := 22) rfl (e_sV (as := [_, _]) (fun _ => rfl) (Or.inl rfl) rfl (hs.o rfl) rfl rfl (Nat.le_of_ble_eq_true rfl) (Nat.le_of_ble_eq_true rfl) rfl) rfl rfl ?_
    refine qev.mono h (fun v _ I1 _ h => ?_)
    obtain ⟨rfl, h⟩ := h
    refine ⟨rfl, ?_⟩
    refine e_next (pc' := 23) rfl rfl ?_
    refine e_getR (pc' := 26) rfl rfl (hs.o rfl) (hs.a rfl) ?_
    refine e_next (pc' := 27) rfl rfl ?_
    refine e_getR (pc' := 30) rfl rfl (hs.o rfl) (hs.a rfl) ?_
    refine e_ciI (pc' := 33) rfl (e_sV (as := [_]) (fun _ => rfl) (Or.inl rfl) rfl (hs.o rfl) rfl rfl (Nat.le_of_ble_eq_true rfl) (Nat.le_of_ble_eq_true rfl) rfl) rfl rfl ?_
    refine qev.mono h (fun v _ I2 _ h => ?_)
    obtain ⟨r2, rfl, h⟩ := h
    refine ⟨r2, rfl, ?_⟩
    exact e_iret rfl h
  · replace h := h.1 (Decidable.not_not.mp hc)
    refine e_iconst (pc' := 9) rfl rfl kc_m1 ?_
    exact e_iret rfl h
theorem w125 {d : Nat} {x1 : Int32} {x2 : Int32} {g : qG} {I : qI} {J : qJ} {Q : qQ} (hs : qSh g)  (h : ((x2 < 0 → Q (some (.int (-1))) g I J) ∧ (¬ x2 < 0 → qC d 135 [.ref 4, .int x1] g I J (fun v _ _ _ => ∃ r1, v = some (.int r1) ∧ ((x2 < r1 → qev (d + 1) 125 (20, [.ref 4, .int x1, .int x2, .int (nI 0), .int (nI 0)], [], g, I, J) Q) ∧ (¬ x2 < r1 → Q (some (.int (-1))) g I J)))))) : qC (d + 1) 125 [.ref 4, .int x1, .int x2] g I J Q := by
  show qev (d + 1) 125 (0, [.ref 4, .int x1, .int x2, qpad, qpad], [], g, I, J) Q
  refine e_next (pc' := 1) rfl rfl ?_
  refine e_if (x2 < 0) (pc' := 4) rfl rfl e_d (fun hc => ?_) (fun hc => ?_)
  · replace h := h.1 hc
    refine e_iconst (pc' := 14) rfl rfl kc_m1 ?_
    exact e_iret rfl h
  · replace h := h.2 hc
    refine e_next (pc' := 5) rfl rfl ?_
    refine e_next (pc' := 6) rfl rfl ?_
    refine e_next (pc' := 7) rfl rfl ?_
    refine e_cpI (pc' := 10) rfl (e_sV (as := [_]) (fun _ => rfl) (Or.inl rfl) rfl (hs.o rfl) rfl rfl (Nat.le_of_ble_eq_true rfl) (Nat.le_of_ble_eq_true rfl) rfl) rfl rfl rfl ?_
    refine qev.mono h (fun v _ _ _ h => ?_)
    obtain ⟨r1, rfl, h⟩ := h
    refine ⟨r1, rfl, ?_⟩
    refine e_icmp (x2 < r1) (pc' := 13) rfl rfl e_d (fun hc => ?_) (fun hc => ?_)
    · replace h := h.1 hc
      refine e_iconst (pc' := 16) rfl rfl kc_0 ?_
      refine e_next (pc' := 17) (ls' := [_, _, _, _, _]) rfl rfl ?_
      refine e_iconst (pc' := 18) rfl rfl kc_0 ?_
      refine e_next (pc' := 20) (ls' := [_, _, _, _, _]) rfl rfl ?_
      exact h
    · replace h := h.2 hc
      refine e_iconst (pc' := 14) rfl rfl kc_m1 ?_
      exact e_iret rfl h
theorem w125_20 {d : Nat} {i1 : Int32} {i2 : Int32} {i3 : Int32} {i4 : Int32} {g : qG} {I : qI} {J : qJ} {Q : qQ} (hs : qSh g)  (h : ((i2 < i4 → qC d 2 [.ref 12, .int i3] g I J (fun v _ _ _ => ∃ r1, v = some (.int r1) ∧ Q (some (.int r1)) g I J)) ∧ (¬ i2 < i4 → qC d 81 [.ref 89, .int i1, .int i4] g I J (fun v _ _ _ => ∃ r2, v = some (.int r2) ∧ qev (d + 1) 125 (20, [.ref 4, .int i1, .int i2, .int (i3 + r2), .int (i4 + (nI 1))], [], g, I, J) Q)))) : qev (d + 1) 125 (20, [.ref 4, .int i1, .int i2, .int i3, .int i4], [], g, I, J) Q := by
  refine e_next (pc' := 22) rfl rfl ?_
  refine e_next (pc' := 23) rfl rfl ?_
  refine e_icmp (i2 < i4) (pc' := 26) rfl rfl e_d (fun hc => ?_) (fun hc => ?_)
  · replace h := h.1 hc
    refine e_next (pc' := 46) rfl rfl ?_
    refine e_getR (pc' := 49) rfl rfl (hs.o rfl) (hs.a rfl) ?_
    refine e_next (pc' := 50) rfl rfl ?_
    refine e_cpI (pc' := 53) rfl (e_sV (as := [_]) (fun _ => rfl) (Or.inl rfl) rfl (hs.o rfl) rfl rfl (Nat.le_of_ble_eq_true rfl) (Nat.le_of_ble_eq_true rfl) rfl) rfl rfl rfl ?_
    refine qev.mono h (fun v _ _ _ h => ?_)
    obtain ⟨r1, rfl, h⟩ := h
    refine ⟨r1, rfl, ?_⟩
    exact e_iret rfl h
  · replace h := h.2 hc
    refine e_next (pc' := 27) rfl rfl ?_
    refine e_next (pc' := 28) rfl rfl ?_
    refine e_getR (pc' := 31) rfl rfl (hs.o rfl) (hs.a rfl) ?_
    refine e_next (pc' := 32) rfl rfl ?_
    refine e_next (pc' := 34) rfl rfl ?_
    refine e_cpI (pc' := 37) rfl (e_sV (as := [_, _]) (fun _ => rfl) (Or.inl rfl) rfl (hs.o rfl) rfl rfl (Nat.le_of_ble_eq_true rfl) (Nat.le_of_ble_eq_true rfl) rfl) rfl rfl rfl ?_
    refine qev.mono h (fun v _ _ _ h => ?_)
    obtain ⟨r2, rfl, h⟩ := h
    refine ⟨r2, rfl, ?_⟩
    refine e_next (pc' := 38) rfl rfl ?_
    refine e_next (pc' := 39) (ls' := [_, _, _, _, _]) rfl rfl ?_
    refine e_iinc (pc' := 42) (ls' := [_, _, _, _, _]) (v := (nI 1)) rfl rfl kc_1 rfl rfl ?_
    refine e_next (pc' := 20) rfl rfl ?_
    exact h
theorem w126 {d : Nat} {x1 : Int32} {x2 : Int32} {g : qG} {I : qI} {J : qJ} {Q : qQ} (hs : qSh g)  (h : qC d 136 [.ref 4, .int x1] g I J (fun v _ _ _ => ∃ r1, v = some (va_rf r1) ∧ ((r1 = none → Q (some (.int (-1000000))) g I J) ∧ (∀ b1, r1 = some b1 → ∃ n_b1, qCod g b1 n_b1 ∧ (((I 4 14) = 0 → Q (some (.int (-1000000))) g I J) ∧ (¬ (I 4 14) = 0 → ((x2 < 0 → Q (some (.int (-1000000))) g I J) ∧ (¬ x2 < 0 → ((x2 ≤ (nI 2) → qC d 140 [.ref 4, .ref b1] g I J (fun v _ I1 _ => ∃ r2, v = some (.int r2) ∧ ((x2 = 0 → ((r2 = (-1) → Q (some (.int (-1))) g I1 J) ∧ (¬ r2 = (-1) → Q (some (.int (I1 4 16))) g I1 J))) ∧ (¬ x2 = 0 → ((x2 = (nI 1) → Q (some (.int r2)) g I1 J) ∧ (¬ x2 = (nI 1) → ((r2 = (-1) → ∃ k1, ((I1 b1 3) - (nI 1)) = nI k1 ∧ k1 < 8 ∧ ∃ k2, (I1 (b1 + 2) k1) = nI k2 ∧ k2 < 8 ∧ Q (some (.int (I1 94 k2))) g I1 J) ∧ (¬ r2 = (-1) → Q (some (.int (-1))) g I1 J)))))))) ∧ (¬ x2 ≤ (nI 2) → Q (some (.int (-1000000))) g I J)))))))))) : qC (d + 1) 126 [.ref 4, .int x1, .int x2] g I J Q := by
  show qev (d + 1) 126 (0, [.ref 4, .int x1, .int x2, qpad, qpad], [], g, I, J) Q
  refine e_next (pc' := 1) rfl rfl ?_
  refine e_next (pc' := 2) rfl rfl ?_
  refine e_cpA (pc' := 5) rfl (e_sV (as := [_]) (fun _ => rfl) (Or.inl rfl) rfl (hs.o rfl) rfl rfl (Nat.le_of_ble_eq_true rfl) (Nat.le_of_ble_eq_true rfl) rfl) rfl rfl rfl ?_
  refine qev.mono h (fun v _ _ _ h => ?_)
  obtain ⟨r1, rfl, h⟩ := h
  refine ⟨r1, rfl, ?_⟩
  refine e_astoreOn (pc' := 6) (ls' := [_, _, _, va_rf r1, _]) (x := r1) rfl rfl rfl ?_
  refine e_aloadOn (pc' := 7) (x := r1) rfl rfl rfl ?_
  refine e_ifnull (pc' := 10) rfl rfl (fun hc => ?_) (fun b1 hc => ?_)
  · replace h := h.1 hc
    subst hc
    refine e_ldc (pc' := 28) rfl rfl kn_4293967296 ?_
    exact e_iret rfl h
  · have h2 := h.2 b1 hc
    clear h
    obtain ⟨n_b1, h_b1, h⟩ := h2
    subst hc
    refine e_next (pc' := 11) rfl rfl ?_
    refine e_getI (pc' := 14) rfl (Or.inr rfl) rfl (hs.o rfl) ?_
    refine e_if ((I 4 14) = 0) (pc' := 17) rfl rfl e_d (fun hc => ?_) (fun hc => ?_)
    · replace h := h.1 hc
      refine e_ldc (pc' := 28) rfl rfl kn_4293967296 ?_
      exact e_iret rfl h
    · replace h := h.2 hc
      refine e_next (pc' := 18) rfl rfl ?_
      refine e_if (x2 < 0) (pc' := 21) rfl rfl e_d (fun hc => ?_) (fun hc => ?_)
      · replace h := h.1 hc
        refine e_ldc (pc' := 28) rfl rfl kn_4293967296 ?_
        exact e_iret rfl h
      · replace h := h.2 hc
        refine e_next (pc' := 22) rfl rfl ?_
        refine e_iconst (pc' := 23) rfl rfl kc_2 ?_
        refine e_icmp (x2 ≤ (nI 2)) (pc' := 26) rfl rfl e_d (fun hc => ?_) (fun hc => ?_)
        · replace h := h.1 hc
          refine e_next (pc' := 30) rfl rfl ?_
          refine e_next (pc' := 31) rfl rfl ?_
          refine e_ciI (pc' := 34) rfl (e_sV (as := [_]) (fun _ => rfl) (Or.inl rfl) rfl (hs.o rfl) rfl rfl (Nat.le_of_ble_eq_true rfl) (Nat.le_of_ble_eq_true rfl) rfl) rfl rfl ?_
          refine qev.mono h (fun v _ I1 _ h => ?_)
          obtain ⟨r2, rfl, h⟩ := h
          refine ⟨r2, rfl, ?_⟩
          refine e_next (pc' := 36) (ls' := [_, _, _, _, _]) rfl rfl ?_
          refine e_next (pc' := 37) rfl rfl ?_
          refine e_if (¬ x2 = 0) (pc' := 40) rfl rfl e_d (fun hc => ?_) (fun hc => ?_)
          · replace h := h.2 hc
            refine e_next (pc' := 56) rfl rfl ?_
            refine e_iconst (pc' := 57) rfl rfl kc_1 ?_
            refine e_icmp (¬ x2 = (nI 1)) (pc' := 60) rfl rfl e_d (fun hc => ?_) (fun hc => ?_)
            · replace h := h.2 hc
              refine e_next (pc' := 65) rfl rfl ?_
              refine e_iconst (pc' := 66) rfl rfl kc_m1 ?_
              refine e_icmp (¬ r2 = (-1)) (pc' := 69) rfl rfl e_d (fun hc => ?_) (fun hc => ?_)
              · replace h := h.2 hc
                refine e_iconst (pc' := 92) rfl rfl kc_m1 ?_
                exact e_iret rfl h
              · replace h := h.1 (Decidable.not_not.mp hc)
                refine e_next (pc' := 70) rfl rfl ?_
                refine e_getR (pc' := 73) rfl rfl (hs.o rfl) (hs.a rfl) ?_
                refine e_getR (pc' := 76) rfl rfl (hs.o rfl) (hs.a rfl) ?_
                refine e_next (pc' := 77) rfl rfl ?_
                refine e_getR (pc' := 80) rfl rfl h_b1.o h_b1.a2 ?_
                refine e_next (pc' := 81) rfl rfl ?_
                refine e_getI (pc' := 84) rfl (Or.inl rfl) rfl h_b1.o ?_
                refine e_iconst (pc' := 85) rfl rfl kc_1 ?_
                refine e_next (pc' := 86) rfl rfl ?_
                obtain ⟨k1, hi_k1, hj_k1, h⟩ := h
                refine e_iald k1 (pc' := 87) rfl rfl h_b1.k2 hi_k1 hj_k1 (by decide) ?_
                obtain ⟨k2, hi_k2, hj_k2, h⟩ := h
                refine e_iald k2 (pc' := 88) rfl rfl (hs.k rfl) hi_k2 hj_k2 (by decide) ?_
                refine e_next (pc' := 92) rfl rfl ?_
                exact e_iret rfl h
            · replace h := h.1 (Decidable.not_not.mp hc)
              refine e_next (pc' := 62) rfl rfl ?_
              exact e_iret rfl h
          · replace h := h.1 (Decidable.not_not.mp hc)
            refine e_next (pc' := 42) rfl rfl ?_
            refine e_iconst (pc' := 43) rfl rfl kc_m1 ?_
            refine e_icmp (¬ r2 = (-1)) (pc' := 46) rfl rfl e_d (fun hc => ?_) (fun hc => ?_)
            · replace h := h.2 hc
              refine e_next (pc' := 51) rfl rfl ?_
              refine e_getI (pc' := 54) rfl (Or.inl rfl) rfl (hs.o rfl) ?_
              exact e_iret rfl h
            · replace h := h.1 (Decidable.not_not.mp hc)
              refine e_iconst (pc' := 47) rfl rfl kc_m1 ?_
              refine e_next (pc' := 54) rfl rfl ?_
              exact e_iret rfl h
        · replace h := h.2 hc
          refine e_ldc (pc' := 28) rfl rfl kn_4293967296 ?_
          exact e_iret rfl h
theorem w127 {d : Nat} {x1 : Int32} {x2 : Int32} {g : qG} {I : qI} {J : qJ} {Q : qQ} (hs : qSh g)  (h : qC d 136 [.ref 4, .int x1] g I J (fun v _ _ _ => ∃ r1, v = some (va_rf r1) ∧ ((r1 = none → Q (some (.int (-1))) g I J) ∧ (∀ b1, r1 = some b1 → ∃ n_b1, qCod g b1 n_b1 ∧ ((x2 = (-1) → Q (some (.int (I b1 3))) g I J) ∧ (¬ x2 = (-1) → ((x2 < 0 → Q (some (.int (-1))) g I J) ∧ (¬ x2 < 0 → ((x2 < (I b1 3) → ∃ k1, x2 = nI k1 ∧ k1 < 8 ∧ Q (some (.int (I (b1 + 2) k1))) g I J) ∧ (¬ x2 < (I b1 3) → Q (some (.int (-1))) g I J)))))))))) : qC (d + 1) 127 [.ref 4, .int x1, .int x2] g I J Q := by
  show qev (d + 1) 127 (0, [.ref 4, .int x1, .int x2, qpad], [], g, I, J) Q
  refine e_next (pc' := 1) rfl rfl ?_
  refine e_next (pc' := 2) rfl rfl ?_
  refine e_cpA (pc' := 5) rfl (e_sV (as := [_]) (fun _ => rfl) (Or.inl rfl) rfl (hs.o rfl) rfl rfl (Nat.le_of_ble_eq_true rfl) (Nat.le_of_ble_eq_true rfl) rfl) rfl rfl rfl ?_
  refine qev.mono h (fun v _ _ _ h => ?_)
  obtain ⟨r1, rfl, h⟩ := h
  refine ⟨r1, rfl, ?_⟩
  refine e_astoreOn (pc' := 6) (ls' := [_, _, _, va_rf r1]) (x := r1) rfl rfl rfl ?_
  refine e_aloadOn (pc' := 7) (x := r1) rfl rfl rfl ?_
  refine e_ifnonnull (pc' := 10) rfl rfl (fun b1 hc => ?_) (fun hc => ?_)
  · have h2 := h.2 b1 hc
    clear h
    obtain ⟨n_b1, h_b1, h⟩ := h2
    subst hc
    refine e_next (pc' := 13) rfl rfl ?_
    refine e_iconst (pc' := 14) rfl rfl kc_m1 ?_
    refine e_icmp (¬ x2 = (-1)) (pc' := 17) rfl rfl e_d (fun hc => ?_) (fun hc => ?_)
    · replace h := h.2 hc
      refine e_next (pc' := 23) rfl rfl ?_
      refine e_if (x2 < 0) (pc' := 26) rfl rfl e_d (fun hc => ?_) (fun hc => ?_)
      · replace h := h.1 hc
        refine e_iconst (pc' := 35) rfl rfl kc_m1 ?_
        refine e_next (pc' := 44) rfl rfl ?_
        exact e_iret rfl h
      · replace h := h.2 hc
        refine e_next (pc' := 27) rfl rfl ?_
        refine e_next (pc' := 28) rfl rfl ?_
        refine e_getI (pc' := 31) rfl (Or.inl rfl) rfl h_b1.o ?_
        refine e_icmp (x2 < (I b1 3)) (pc' := 34) rfl rfl e_d (fun hc => ?_) (fun hc => ?_)
        · replace h := h.1 hc
          refine e_next (pc' := 39) rfl rfl ?_
          refine e_getR (pc' := 42) rfl rfl h_b1.o h_b1.a2 ?_
          refine e_next (pc' := 43) rfl rfl ?_
          obtain ⟨k1, hi_k1, hj_k1, h⟩ := h
          refine e_iald k1 (pc' := 44) rfl rfl h_b1.k2 hi_k1 hj_k1 (by decide) ?_
          exact e_iret rfl h
        · replace h := h.2 hc
          refine e_iconst (pc' := 35) rfl rfl kc_m1 ?_
          refine e_next (pc' := 44) rfl rfl ?_
          exact e_iret rfl h
    · replace h := h.1 (Decidable.not_not.mp hc)
      refine e_next (pc' := 18) rfl rfl ?_
      refine e_getI (pc' := 21) rfl (Or.inl rfl) rfl h_b1.o ?_
      exact e_iret rfl h
  · replace h := h.1 hc
    subst hc
    refine e_iconst (pc' := 11) rfl rfl kc_m1 ?_
    exact e_iret rfl h
theorem w128 {d : Nat} {x1 : Int32} {g : qG} {I : qI} {J : qJ} {Q : qQ} (hs : qSh g)  (h : (((I 4 14) = 0 → Q (some (.int (-1000000))) g I J) ∧ (¬ (I 4 14) = 0 → ((x1 = nI 0 → qC d 89 [.ref 89] g I J (fun v _ _ _ => ∃ r1, v = some (.int r1) ∧ Q (some (.int r1)) g I J)) ∧ (x1 = nI 1 → qC d 90 [.ref 89] g I J (fun v _ _ _ => ∃ r2, v = some (.int r2) ∧ Q (some (.int r2)) g I J)) ∧ (x1 = nI 2 → qC d 91 [.ref 89] g I J (fun v _ _ _ => ∃ r3, v = some (.int r3) ∧ Q (some (.int r3)) g I J)) ∧ (x1 = nI 3 → qC d 92 [.ref 89] g I J (fun v _ _ _ => ∃ r4, v = some (.int r4) ∧ Q (some (.int r4)) g I J)) ∧ (x1 = nI 4 → qC d 93 [.ref 89] g I J (fun v _ _ _ => ∃ r5, v = some (.int r5) ∧ Q (some (.int r5)) g I J)) ∧ (x1 = nI 5 → qC d 94 [.ref 89] g I J (fun v _ _ _ => ∃ r6, v = some (.int r6) ∧ Q (some (.int r6)) g I J)) ∧ (x1 = nI 6 → qC d 95 [.ref 89] g I J (fun v _ _ _ => ∃ r7, v = some (.int r7) ∧ Q (some (.int r7)) g I J)) ∧ (¬ x1 = nI 0 ∧ ¬ x1 = nI 1 ∧ ¬ x1 = nI 2 ∧ ¬ x1 = nI 3 ∧ ¬ x1 = nI 4 ∧ ¬ x1 = nI 5 ∧ ¬ x1 = nI 6 → Q (some (.int (-1000000))) g I J))))) : qC (d + 1) 128 [.ref 4, .int x1] g I J Q := by
  show qev (d + 1) 128 (0, [.ref 4, .int x1], [], g, I, J) Q
  refine e_next (pc' := 1) rfl rfl ?_
  refine e_getI (pc' := 4) rfl (Or.inr rfl) rfl (hs.o rfl) ?_
  refine e_if (¬ (I 4 14) = 0) (pc' := 7) rfl rfl e_d (fun hc => ?_) (fun hc => ?_)
  · replace h := h.2 hc
    refine e_next (pc' := 11) rfl rfl ?_
    by_cases hc0 : x1 = nI 0
    · refine e_tswI (t := 52) 0 rfl hc0 (by decide) (by decide) ?_
      replace h := h.1 hc0
      refine e_next (pc' := 53) rfl rfl ?_
      refine e_getR (pc' := 56) rfl rfl (hs.o rfl) (hs.a rfl) ?_
      refine e_cpI (pc' := 59) rfl (e_sV (as := []) (fun _ => rfl) (Or.inl rfl) rfl (hs.o rfl) rfl rfl (Nat.le_of_ble_eq_true rfl) (Nat.le_of_ble_eq_true rfl) rfl) rfl rfl rfl ?_
      refine qev.mono h (fun v _ _ _ h => ?_)
      obtain ⟨r1, rfl, h⟩ := h
      refine ⟨r1, rfl, ?_⟩
      exact e_iret rfl h
    replace h := h.2
    by_cases hc1 : x1 = nI 1
    · refine e_tswI (t := 60) 1 rfl hc1 (by decide) (by decide) ?_
      replace h := h.1 hc1
      refine e_next (pc' := 61) rfl rfl ?_
      refine e_getR (pc' := 64) rfl rfl (hs.o rfl) (hs.a rfl) ?_
      refine e_cpI (pc' := 67) rfl (e_sV (as := []) (fun _ => rfl) (Or.inl rfl) rfl (hs.o rfl) rfl rfl (Nat.le_of_ble_eq_true rfl) (Nat.le_of_ble_eq_true rfl) rfl) rfl rfl rfl ?_
      refine qev.mono h (fun v _ _ _ h => ?_)
      obtain ⟨r2, rfl, h⟩ := h
      refine ⟨r2, rfl, ?_⟩
      exact e_iret rfl h
    replace h := h.2
    by_cases hc2 : x1 = nI 2
    · refine e_tswI (t := 68) 2 rfl hc2 (by decide) (by decide) ?_
      replace h := h.1 hc2
      refine e_next (pc' := 69) rfl rfl ?_
      refine e_getR (pc' := 72) rfl rfl (hs.o rfl) (hs.a rfl) ?_
      refine e_cpI (pc' := 75) rfl (e_sV (as := []) (fun _ => rfl) (Or.inl rfl) rfl (hs.o rfl) rfl rfl (Nat.le_of_ble_eq_true rfl) (Nat.le_of_ble_eq_true rfl) rfl) rfl rfl rfl ?_
      refine qev.mono h (fun v _ _ _ h => ?_)
      obtain ⟨r3, rfl, h⟩ := h
      refine ⟨r3, rfl, ?_⟩
      exact e_iret rfl h
    replace h := h.2
    by_cases hc3 : x1 = nI 3
    · refine e_tswI (t := 76) 3 rfl hc3 (by decide) (by decide) ?_
      replace h := h.1 hc3
      refine e_next (pc' := 77) rfl rfl ?_
      refine e_getR (pc' := 80) rfl rfl (hs.o rfl) (hs.a rfl) ?_
      refine e_cpI (pc' := 83) rfl (e_sV (as := []) (fun _ => rfl) (Or.inl rfl) rfl (hs.o rfl) rfl rfl (Nat.le_of_ble_eq_true rfl) (Nat.le_of_ble_eq_true rfl) rfl) rfl rfl rfl ?_
      refine qev.mono h (fun v _ _ _ h => ?_)
      obtain ⟨r4, rfl, h⟩ := h
      refine ⟨r4, rfl, ?_⟩
      exact e_iret rfl h
    replace h := h.2
    by_cases hc4 : x1 = nI 4
    · refine e_tswI (t := 84) 4 rfl hc4 (by decide) (by decide) ?_
      replace h := h.1 hc4
      refine e_next (pc' := 85) rfl rfl ?_
      refine e_getR (pc' := 88) rfl rfl (hs.o rfl) (hs.a rfl) ?_
      refine e_cpI (pc' := 91) rfl (e_sV (as := []) (fun _ => rfl) (Or.inl rfl) rfl (hs.o rfl) rfl rfl (Nat.le_of_ble_eq_true rfl) (Nat.le_of_ble_eq_true rfl) rfl) rfl rfl rfl ?_
      refine qev.mono h (fun v _ _ _ h => ?_)
      obtain ⟨r5, rfl, h⟩ := h
      refine ⟨r5, rfl, ?_⟩
      exact e_iret rfl h
    replace h := h.2
    by_cases hc5 : x1 = nI 5
    · refine e_tswI (t := 92) 5 rfl hc5 (by decide) (by decide) ?_
      replace h := h.1 hc5
      refine e_next (pc' := 93) rfl rfl ?_
      refine e_getR (pc' := 96) rfl rfl (hs.o rfl) (hs.a rfl) ?_
      refine e_cpI (pc' := 99) rfl (e_sV (as := []) (fun _ => rfl) (Or.inl rfl) rfl (hs.o rfl) rfl rfl (Nat.le_of_ble_eq_true rfl) (Nat.le_of_ble_eq_true rfl) rfl) rfl rfl rfl ?_
      refine qev.mono h (fun v _ _ _ h => ?_)
      obtain ⟨r6, rfl, h⟩ := h
      refine ⟨r6, rfl, ?_⟩
      exact e_iret rfl h
    replace h := h.2
    by_cases hc6 : x1 = nI 6
    · refine e_tswI (t := 100) 6 rfl hc6 (by decide) (by decide) ?_
      replace h := h.1 hc6
      refine e_next (pc' := 101) rfl rfl ?_
      refine e_getR (pc' := 104) rfl rfl (hs.o rfl) (hs.a rfl) ?_
      refine e_cpI (pc' := 107) rfl (e_sV (as := []) (fun _ => rfl) (Or.inl rfl) rfl (hs.o rfl) rfl rfl (Nat.le_of_ble_eq_true rfl) (Nat.le_of_ble_eq_true rfl) rfl) rfl rfl rfl ?_
      refine qev.mono h (fun v _ _ _ h => ?_)
      obtain ⟨r7, rfl, h⟩ := h
      refine ⟨r7, rfl, ?_⟩
      exact e_iret rfl h
    replace h := h.2
    replace h := h ⟨hc0, hc1, hc2, hc3, hc4, hc5, hc6⟩
    refine e_tswO (t := 108) (lo := 0) (hi := 6) rfl (fun k h1 h2 => ?_) (by decide) (by decide) ?_
    · rcases (show k = 0 ∨ k = 1 ∨ k = 2 ∨ k = 3 ∨ k = 4 ∨ k = 5 ∨ k = 6 by omega) with rfl | rfl | rfl | rfl | rfl | rfl | rfl
      · exact hc0
      · exact hc1
      · exact hc2
      · exact hc3
      · exact hc4
      · exact hc5
      · exact hc6
    refine e_ldc (pc' := 110) rfl rfl kn_4293967296 ?_
    exact e_iret rfl h
  · replace h := h.1 (Decidable.not_not.mp hc)
    refine e_ldc (pc' := 9) rfl rfl kn_4293967296 ?_
    exact e_iret rfl h
theorem w129 {d : Nat}  {g : qG} {I : qI} {J : qJ} {Q : qQ} (hs : qSh g)  (h : (((I 4 14) = 0 → Q (some (.int (-1))) g I J) ∧ (¬ (I 4 14) = 0 → qC d 80 [.ref 97, .ref 89] g I J (fun v _ I1 _ => v = none ∧ qC d 88 [.ref 89] g (qw I1 4 15 (nI 1)) J (fun v _ _ _ => ∃ r1, v = some (.int r1) ∧ Q (some (.int r1)) g (qw I1 4 15 (nI 1)) J))))) : qC (d + 1) 129 [.ref 4] g I J Q := by
  show qev (d + 1) 129 (0, [.ref 4], [], g, I, J) Q
  refine e_next (pc' := 1) rfl rfl ?_
  refine e_getI (pc' := 4) rfl (Or.inr rfl) rfl (hs.o rfl) ?_
  refine e_if (¬ (I 4 14) = 0) (pc' := 7) rfl rfl e_d (fun hc => ?_) (fun hc => ?_)
  · replace h := h.2 hc
    refine e_next (pc' := 10) rfl rfl ?_
    refine e_getR (pc' := 13) rfl rfl (hs.o rfl) (hs.a rfl) ?_
    refine e_next (pc' := 14) rfl rfl ?_
    refine e_getR (pc' := 17) rfl rfl (hs.o rfl) (hs.a rfl) ?_
    refine e_ciV (pc' := 20) rfl (e_sV (as := [_]) (fun _ => rfl) (Or.inl rfl) rfl (hs.o rfl) rfl rfl (Nat.le_of_ble_eq_true rfl) (Nat.le_of_ble_eq_true rfl) rfl) rfl rfl ?_
    refine qev.mono h (fun v _ I1 _ h => ?_)
    obtain ⟨rfl, h⟩ := h
    refine ⟨rfl, ?_⟩
    refine e_next (pc' := 21) rfl rfl ?_
    refine e_iconst (pc' := 22) rfl rfl kc_1 ?_
    refine e_putZ (pc' := 25) rfl rfl (hs.o rfl) (Or.inr nI_one) ?_
    refine e_next (pc' := 26) rfl rfl ?_
    refine e_getR (pc' := 29) rfl rfl (hs.o rfl) (hs.a rfl) ?_
    refine e_cpI (pc' := 32) rfl (e_sV (as := []) (fun _ => rfl) (Or.inl rfl) rfl (hs.o rfl) rfl rfl (Nat.le_of_ble_eq_true rfl) (Nat.le_of_ble_eq_true rfl) rfl) rfl rfl rfl ?_
    refine qev.mono h (fun v _ _ _ h => ?_)
    obtain ⟨r1, rfl, h⟩ := h
    refine ⟨r1, rfl, ?_⟩
    exact e_iret rfl h
  · replace h := h.1 (Decidable.not_not.mp hc)
    refine e_iconst (pc' := 8) rfl rfl kc_m1 ?_
    exact e_iret rfl h
theorem w130 {d : Nat}  {g : qG} {I : qI} {J : qJ} {Q : qQ} (hs : qSh g)  (h : (((I 4 15) = 0 → Q (some (.int (-1))) g I J) ∧ (¬ (I 4 15) = 0 → qC d 80 [.ref 89, .ref 97] g I J (fun v _ I1 _ => v = none ∧ qC d 38 [.ref 101] g I1 J (fun v _ I2 _ => v = none ∧ qC d 88 [.ref 89] g I2 J (fun v _ _ _ => ∃ r1, v = some (.int r1) ∧ Q (some (.int r1)) g I2 J)))))) : qC (d + 1) 130 [.ref 4] g I J Q := by
  show qev (d + 1) 130 (0, [.ref 4], [], g, I, J) Q
  refine e_next (pc' := 1) rfl rfl ?_
  refine e_getI (pc' := 4) rfl (Or.inr rfl) rfl (hs.o rfl) ?_
  refine e_if (¬ (I 4 15) = 0) (pc' := 7) rfl rfl e_d (fun hc => ?_) (fun hc => ?_)
  · replace h := h.2 hc
    refine e_next (pc' := 10) rfl rfl ?_
    refine e_getR (pc' := 13) rfl rfl (hs.o rfl) (hs.a rfl) ?_
    refine e_next (pc' := 14) rfl rfl ?_
    refine e_getR (pc' := 17) rfl rfl (hs.o rfl) (hs.a rfl) ?_
    refine e_ciV (pc' := 20) rfl (e_sV (as := [_]) (fun _ => rfl) (Or.inl rfl) rfl (hs.o rfl) rfl rfl (Nat.le_of_ble_eq_true rfl) (Nat.le_of_ble_eq_true rfl) rfl) rfl rfl ?_
    refine qev.mono h (fun v _ I1 _ h => ?_)
    obtain ⟨rfl, h⟩ := h
    refine ⟨rfl, ?_⟩
    refine e_next (pc' := 21) rfl rfl ?_
    refine e_getR (pc' := 24) rfl rfl (hs.o rfl) (hs.a rfl) ?_
    refine e_ciV (pc' := 27) rfl (e_sV (as := []) (fun _ => rfl) (Or.inl rfl) rfl (hs.o rfl) rfl rfl (Nat.le_of_ble_eq_true rfl) (Nat.le_of_ble_eq_true rfl) rfl) rfl rfl ?_
    refine qev.mono h (fun v _ I2 _ h => ?_)
    obtain ⟨rfl, h⟩ := h
    refine ⟨rfl, ?_⟩
    refine e_next (pc' := 28) rfl rfl ?_
    refine e_getR (pc' := 31) rfl rfl (hs.o rfl) (hs.a rfl) ?_
    refine e_cpI (pc' := 34) rfl (e_sV (as := []) (fun _ => rfl) (Or.inl rfl) rfl (hs.o rfl) rfl rfl (Nat.le_of_ble_eq_true rfl) (Nat.le_of_ble_eq_true rfl) rfl) rfl rfl rfl ?_
    refine qev.mono h (fun v _ _ _ h => ?_)
    obtain ⟨r1, rfl, h⟩ := h
    refine ⟨r1, rfl, ?_⟩
    exact e_iret rfl h
  · replace h := h.1 (Decidable.not_not.mp hc)
    refine e_iconst (pc' := 8) rfl rfl kc_m1 ?_
    exact e_iret rfl h
theorem w131 {d : Nat} {x1 : Int32} {g : qG} {I : qI} {J : qJ} {Q : qQ} (hs : qSh g)  (h : ((x1 = nI 0 → qC d 88 [.ref 89] g I J (fun v _ _ _ => ∃ r1, v = some (.int r1) ∧ Q (some (.int r1)) g I J)) ∧ (x1 = nI 1 → Q (some (.int (I 4 13))) g I J) ∧ (x1 = nI 2 → Q (some (.int (I 5 1))) g I J) ∧ (x1 = nI 3 → Q (some (.int (I 89 3))) g I J) ∧ (x1 = nI 4 → Q (some (.int (I 101 2))) g I J) ∧ (¬ x1 = nI 0 ∧ ¬ x1 = nI 1 ∧ ¬ x1 = nI 2 ∧ ¬ x1 = nI 3 ∧ ¬ x1 = nI 4 → Q (some (.int (-1000000))) g I J))) : qC (d + 1) 131 [.ref 4, .int x1] g I J Q := by
  show qev (d + 1) 131 (0, [.ref 4, .int x1], [], g, I, J) Q
  refine e_next (pc' := 1) rfl rfl ?_
  by_cases hc0 : x1 = nI 0
  · refine e_tswI (t := 36) 0 rfl hc0 (by decide) (by decide) ?_
    replace h := h.1 hc0
    refine e_next (pc' := 37) rfl rfl ?_
    refine e_getR (pc' := 40) rfl rfl (hs.o rfl) (hs.a rfl) ?_
    refine e_cpI (pc' := 43) rfl (e_sV (as := []) (fun _ => rfl) (Or.inl rfl) rfl (hs.o rfl) rfl rfl (Nat.le_of_ble_eq_true rfl) (Nat.le_of_ble_eq_true rfl) rfl) rfl rfl rfl ?_
    refine qev.mono h (fun v _ _ _ h => ?_)
    obtain ⟨r1, rfl, h⟩ := h
    refine ⟨r1, rfl, ?_⟩
    exact e_iret rfl h
  replace h := h.2
  by_cases hc1 : x1 = nI 1
  · refine e_tswI (t := 44) 1 rfl hc1 (by decide) (by decide) ?_
    replace h := h.1 hc1
    refine e_next (pc' := 45) rfl rfl ?_
    refine e_getI (pc' := 48) rfl (Or.inl rfl) rfl (hs.o rfl) ?_
    exact e_iret rfl h
  replace h := h.2
  by_cases hc2 : x1 = nI 2
  · refine e_tswI (t := 49) 2 rfl hc2 (by decide) (by decide) ?_
    replace h := h.1 hc2
    refine e_next (pc' := 50) rfl rfl ?_
    refine e_getR (pc' := 53) rfl rfl (hs.o rfl) (hs.a rfl) ?_
    refine e_getI (pc' := 56) rfl (Or.inl rfl) rfl (hs.o rfl) ?_
    exact e_iret rfl h
  replace h := h.2
  by_cases hc3 : x1 = nI 3
  · refine e_tswI (t := 57) 3 rfl hc3 (by decide) (by decide) ?_
    replace h := h.1 hc3
    refine e_next (pc' := 58) rfl rfl ?_
    refine e_getR (pc' := 61) rfl rfl (hs.o rfl) (hs.a rfl) ?_
    refine e_getI (pc' := 64) rfl (Or.inl rfl) rfl (hs.o rfl) ?_
    exact e_iret rfl h
  replace h := h.2
  by_cases hc4 : x1 = nI 4
  · refine e_tswI (t := 65) 4 rfl hc4 (by decide) (by decide) ?_
    replace h := h.1 hc4
    refine e_next (pc' := 66) rfl rfl ?_
    refine e_getR (pc' := 69) rfl rfl (hs.o rfl) (hs.a rfl) ?_
    refine e_getI (pc' := 72) rfl (Or.inl rfl) rfl (hs.o rfl) ?_
    exact e_iret rfl h
  replace h := h.2
  replace h := h ⟨hc0, hc1, hc2, hc3, hc4⟩
  refine e_tswO (t := 73) (lo := 0) (hi := 4) rfl (fun k h1 h2 => ?_) (by decide) (by decide) ?_
  · rcases (show k = 0 ∨ k = 1 ∨ k = 2 ∨ k = 3 ∨ k = 4 by omega) with rfl | rfl | rfl | rfl | rfl
    · exact hc0
    · exact hc1
    · exact hc2
    · exact hc3
    · exact hc4
  refine e_ldc (pc' := 75) rfl rfl kn_4293967296 ?_
  exact e_iret rfl h
theorem w132 {d : Nat} {x1 : Int32} {g : qG} {I : qI} {J : qJ} {Q : qQ}  (h : qev d 132 (5, [.int x1, .int (nI 0), .int (nI 24)], [], g, I, J) Q) : qC d 132 [.int x1] g I J Q := by
  show qev d 132 (0, [.int x1, qpad, qpad], [], g, I, J) Q
  refine e_iconst (pc' := 1) rfl rfl kc_0 ?_
  refine e_next (pc' := 2) (ls' := [_, _, _]) rfl rfl ?_
  refine e_bipush (pc' := 4) rfl rfl kb_24 ?_
  refine e_next (pc' := 5) (ls' := [_, _, _]) rfl rfl ?_
  exact h
theorem w132_5 {d : Nat} {i0 : Int32} {i1 : Int32} {i2 : Int32} {g : qG} {I : qI} {J : qJ} {Q : qQ}  (h : ((i2 < 0 → Q (some (.int i1)) g I J) ∧ (¬ i2 < 0 → ((((qushr i0 i2) &&& (nI 255)) = 0 → qev d 132 (5, [.int i0, .int i1, .int (i2 + (-8))], [], g, I, J) Q) ∧ (¬ ((qushr i0 i2) &&& (nI 255)) = 0 → qev d 132 (5, [.int i0, .int (i1 + (nI 1)), .int (i2 + (-8))], [], g, I, J) Q))))) : qev d 132 (5, [.int i0, .int i1, .int i2], [], g, I, J) Q := by
  refine e_next (pc' := 6) rfl rfl ?_
  refine e_if (i2 < 0) (pc' := 9) rfl rfl e_d (fun hc => ?_) (fun hc => ?_)
  · replace h := h.1 hc
    refine e_next (pc' := 29) rfl rfl ?_
    exact e_iret rfl h
  · replace h := h.2 hc
    refine e_next (pc' := 10) rfl rfl ?_
    refine e_next (pc' := 11) rfl rfl ?_
    refine e_next (pc' := 12) rfl rfl ?_
    refine e_sipush (pc' := 15) rfl rfl ks_255 ?_
    refine e_next (pc' := 16) rfl rfl ?_
    refine e_if (((qushr i0 i2) &&& (nI 255)) = 0) (pc' := 19) rfl rfl e_d (fun hc => ?_) (fun hc => ?_)
    · replace h := h.1 hc
      refine e_iinc (pc' := 25) (ls' := [_, _, _]) (v := (-8)) rfl rfl kc_m8 rfl rfl ?_
      refine e_next (pc' := 5) rfl rfl ?_
      exact h
    · replace h := h.2 hc
      refine e_iinc (pc' := 22) (ls' := [_, _, _]) (v := (nI 1)) rfl rfl kc_1 rfl rfl ?_
      refine e_iinc (pc' := 25) (ls' := [_, _, _]) (v := (-8)) rfl rfl kc_m8 rfl rfl ?_
      refine e_next (pc' := 5) rfl rfl ?_
      exact h
theorem w133 {d : Nat}  {g : qG} {I : qI} {J : qJ} {Q : qQ} (hs : qSh g)  (h : qC d 1 [.ref 12, .int (I 11 5), .int (I 11 6)] g I J (fun v _ I1 _ => v = none ∧ qC d 79 [.ref 89] g I1 J (fun v _ I2 _ => v = none ∧ qC d 38 [.ref 101] g I2 J (fun v _ I3 _ => v = none ∧ Q (some (.int ((qw (qw I3 4 14 (nI 1)) 4 15 (nI 0)) 12 7))) g (qw (qw I3 4 14 (nI 1)) 4 15 (nI 0)) J)))) : qC (d + 1) 133 [.ref 4] g I J Q := by
  show qev (d + 1) 133 (0, [.ref 4], [], g, I, J) Q
  refine e_next (pc' := 1) rfl rfl ?_
  refine e_getR (pc' := 4) rfl rfl (hs.o rfl) (hs.a rfl) ?_
  refine e_next (pc' := 5) rfl rfl ?_
  refine e_getR (pc' := 8) rfl rfl (hs.o rfl) (hs.a rfl) ?_
  refine e_getI (pc' := 11) rfl (Or.inl rfl) rfl (hs.o rfl) ?_
  refine e_next (pc' := 12) rfl rfl ?_
  refine e_getR (pc' := 15) rfl rfl (hs.o rfl) (hs.a rfl) ?_
  refine e_getI (pc' := 18) rfl (Or.inl rfl) rfl (hs.o rfl) ?_
  refine e_ciV (pc' := 21) rfl (e_sV (as := [_, _]) (fun _ => rfl) (Or.inl rfl) rfl (hs.o rfl) rfl rfl (Nat.le_of_ble_eq_true rfl) (Nat.le_of_ble_eq_true rfl) rfl) rfl rfl ?_
  refine qev.mono h (fun v _ I1 _ h => ?_)
  obtain ⟨rfl, h⟩ := h
  refine ⟨rfl, ?_⟩
  refine e_next (pc' := 22) rfl rfl ?_
  refine e_getR (pc' := 25) rfl rfl (hs.o rfl) (hs.a rfl) ?_
  refine e_ciV (pc' := 28) rfl (e_sV (as := []) (fun _ => rfl) (Or.inl rfl) rfl (hs.o rfl) rfl rfl (Nat.le_of_ble_eq_true rfl) (Nat.le_of_ble_eq_true rfl) rfl) rfl rfl ?_
  refine qev.mono h (fun v _ I2 _ h => ?_)
  obtain ⟨rfl, h⟩ := h
  refine ⟨rfl, ?_⟩
  refine e_next (pc' := 29) rfl rfl ?_
  refine e_getR (pc' := 32) rfl rfl (hs.o rfl) (hs.a rfl) ?_
  refine e_ciV (pc' := 35) rfl (e_sV (as := []) (fun _ => rfl) (Or.inl rfl) rfl (hs.o rfl) rfl rfl (Nat.le_of_ble_eq_true rfl) (Nat.le_of_ble_eq_true rfl) rfl) rfl rfl ?_
  refine qev.mono h (fun v _ I3 _ h => ?_)
  obtain ⟨rfl, h⟩ := h
  refine ⟨rfl, ?_⟩
  refine e_next (pc' := 36) rfl rfl ?_
  refine e_iconst (pc' := 37) rfl rfl kc_1 ?_
  refine e_putZ (pc' := 40) rfl rfl (hs.o rfl) (Or.inr nI_one) ?_
  refine e_next (pc' := 41) rfl rfl ?_
  refine e_iconst (pc' := 42) rfl rfl kc_0 ?_
  refine e_putZ (pc' := 45) rfl rfl (hs.o rfl) (Or.inl nI_0) ?_
  refine e_next (pc' := 46) rfl rfl ?_
  refine e_getR (pc' := 49) rfl rfl (hs.o rfl) (hs.a rfl) ?_
  refine e_getI (pc' := 52) rfl (Or.inl rfl) rfl (hs.o rfl) ?_
  exact e_iret rfl h
theorem w135 {d : Nat} {x1 : Int32} {g : qG} {I : qI} {J : qJ} {Q : qQ} (hs : qSh g)  (h : ((x1 < 0 → Q (some (.int (nI 0))) g I J) ∧ (¬ x1 < 0 → ((x1 < (nI 8) → ∃ k1, x1 = nI k1 ∧ k1 < 8 ∧ Q (some (.int (I 90 k1))) g I J) ∧ (¬ x1 < (nI 8) → Q (some (.int (nI 0))) g I J))))) : qC d 135 [.ref 4, .int x1] g I J Q := by
  show qev d 135 (0, [.ref 4, .int x1], [], g, I, J) Q
  refine e_next (pc' := 1) rfl rfl ?_
  refine e_if (x1 < 0) (pc' := 4) rfl rfl e_d (fun hc => ?_) (fun hc => ?_)
  · replace h := h.1 hc
    refine e_iconst (pc' := 11) rfl rfl kc_0 ?_
    refine e_next (pc' := 23) rfl rfl ?_
    exact e_iret rfl h
  · replace h := h.2 hc
    refine e_next (pc' := 5) rfl rfl ?_
    refine e_bipush (pc' := 7) rfl rfl kb_8 ?_
    refine e_icmp (x1 < (nI 8)) (pc' := 10) rfl rfl e_d (fun hc => ?_) (fun hc => ?_)
    · replace h := h.1 hc
      refine e_next (pc' := 15) rfl rfl ?_
      refine e_getR (pc' := 18) rfl rfl (hs.o rfl) (hs.a rfl) ?_
      refine e_getR (pc' := 21) rfl rfl (hs.o rfl) (hs.a rfl) ?_
      refine e_next (pc' := 22) rfl rfl ?_
      obtain ⟨k1, hi_k1, hj_k1, h⟩ := h
      refine e_iald k1 (pc' := 23) rfl rfl (hs.k rfl) hi_k1 hj_k1 (by decide) ?_
      exact e_iret rfl h
    · replace h := h.2 hc
      refine e_iconst (pc' := 11) rfl rfl kc_0 ?_
      refine e_next (pc' := 23) rfl rfl ?_
      exact e_iret rfl h
theorem w136 {d : Nat} {x1 : Int32} {g : qG} {I : qI} {J : qJ} {Q : qQ} (hs : qSh g)  (h : ((x1 < 0 → Q (some (va_rf none)) g I J) ∧ (¬ x1 < 0 → ((x1 < (I 4 13) → ∃ k1, x1 = nI k1 ∧ k1 < 4 ∧ Q (some (va_rf (g.2.1 103 k1))) g I J) ∧ (¬ x1 < (I 4 13) → Q (some (va_rf none)) g I J))))) : qC d 136 [.ref 4, .int x1] g I J Q := by
  show qev d 136 (0, [.ref 4, .int x1], [], g, I, J) Q
  refine e_next (pc' := 1) rfl rfl ?_
  refine e_if (x1 < 0) (pc' := 4) rfl rfl e_d (fun hc => ?_) (fun hc => ?_)
  · replace h := h.1 hc
    refine e_next (pc' := 13) rfl rfl ?_
    refine e_next (pc' := 22) rfl rfl ?_
    exact e_aret (v := none) rfl h
  · replace h := h.2 hc
    refine e_next (pc' := 5) rfl rfl ?_
    refine e_next (pc' := 6) rfl rfl ?_
    refine e_getI (pc' := 9) rfl (Or.inl rfl) rfl (hs.o rfl) ?_
    refine e_icmp (x1 < (I 4 13)) (pc' := 12) rfl rfl e_d (fun hc => ?_) (fun hc => ?_)
    · replace h := h.1 hc
      refine e_next (pc' := 17) rfl rfl ?_
      refine e_getR (pc' := 20) rfl rfl (hs.o rfl) (hs.a rfl) ?_
      refine e_next (pc' := 21) rfl rfl ?_
      obtain ⟨k1, hi_k1, hj_k1, h⟩ := h
      refine e_aald (v := g.2.1 103 k1) k1 (pc' := 22) rfl rfl (hs.k rfl) rfl hi_k1 hj_k1 (by decide) rfl ?_
      exact e_aret (v := (g.2.1 103 k1)) rfl h
    · replace h := h.2 hc
      refine e_next (pc' := 13) rfl rfl ?_
      refine e_next (pc' := 22) rfl rfl ?_
      exact e_aret (v := none) rfl h
theorem w137 {d : Nat} {x1 : Int32} {g : qG} {I : qI} {J : qJ} {Q : qQ} (hs : qSh g)  (h : ((x1 < 0 → Q (some (.int (-1))) g I J) ∧ (¬ x1 < 0 → (((nI 6) ≤ x1 → Q (some (.int (-1))) g I J) ∧ (¬ (nI 6) ≤ x1 → ∃ k1, x1 = nI k1 ∧ k1 < 6 ∧ ∃ k2, x1 = nI k2 ∧ k2 < 6 ∧ Q (some (.int (-1))) g (qw I 104 k2 ((I 104 k1) + (nI 1))) J))))) : qC d 137 [.ref 4, .int x1] g I J Q := by
  show qev d 137 (0, [.ref 4, .int x1], [], g, I, J) Q
  refine e_next (pc' := 1) rfl rfl ?_
  refine e_if (x1 < 0) (pc' := 4) rfl rfl e_d (fun hc => ?_) (fun hc => ?_)
  · replace h := h.1 hc
    refine e_iconst (pc' := 21) rfl rfl kc_m1 ?_
    exact e_iret rfl h
  · replace h := h.2 hc
    refine e_next (pc' := 5) rfl rfl ?_
    refine e_bipush (pc' := 7) rfl rfl kb_6 ?_
    refine e_icmp ((nI 6) ≤ x1) (pc' := 10) rfl rfl e_d (fun hc => ?_) (fun hc => ?_)
    · replace h := h.1 hc
      refine e_iconst (pc' := 21) rfl rfl kc_m1 ?_
      exact e_iret rfl h
    · replace h := h.2 hc
      refine e_next (pc' := 11) rfl rfl ?_
      refine e_getR (pc' := 14) rfl rfl (hs.o rfl) (hs.a rfl) ?_
      refine e_next (pc' := 15) rfl rfl ?_
      refine e_next (pc' := 16) rfl rfl ?_
      obtain ⟨k1, hi_k1, hj_k1, h⟩ := h
      refine e_iald k1 (pc' := 17) rfl rfl (hs.k rfl) hi_k1 hj_k1 (by decide) ?_
      refine e_iconst (pc' := 18) rfl rfl kc_1 ?_
      refine e_next (pc' := 19) rfl rfl ?_
      obtain ⟨k2, hi_k2, hj_k2, h⟩ := h
      refine e_iast k2 (pc' := 20) rfl rfl (hs.k rfl) hi_k2 hj_k2 (by decide) ?_
      refine e_iconst (pc' := 21) rfl rfl kc_m1 ?_
      exact e_iret rfl h
theorem w138 {d : Nat}  {g : qG} {I : qI} {J : qJ} {Q : qQ} (hs : qSh g)  (h : (((I 4 14) = 0 → Q (some (.int (nI 0))) g I J) ∧ (¬ (I 4 14) = 0 → qC d 48 [.ref 11, .int (nI 2)] g I J (fun v _ I1 _ => ∃ r1, v = some (.int r1) ∧ ((r1 = (-1) → qC d 43 [.ref 33, .ref 7, .int (nI 0), .ref 89] g I1 J (fun v _ I2 _ => ∃ r2, v = some (.int r2) ∧ Q (some (.int r2)) g I2 J)) ∧ (¬ r1 = (-1) → Q (some (.int (nI 1))) g I1 J)))))) : qC (d + 1) 138 [.ref 4] g I J Q := by
  show qev (d + 1) 138 (0, [.ref 4], [], g, I, J) Q
  refine e_next (pc' := 1) rfl rfl ?_
  refine e_getI (pc' := 4) rfl (Or.inr rfl) rfl (hs.o rfl) ?_
  refine e_if (¬ (I 4 14) = 0) (pc' := 7) rfl rfl e_d (fun hc => ?_) (fun hc => ?_)
  · replace h := h.2 hc
    refine e_next (pc' := 10) rfl rfl ?_
    refine e_getR (pc' := 13) rfl rfl (hs.o rfl) (hs.a rfl) ?_
    refine e_iconst (pc' := 14) rfl rfl kc_2 ?_
    refine e_ciI (pc' := 17) rfl (e_sV (as := [_]) (fun _ => rfl) (Or.inl rfl) rfl (hs.o rfl) rfl rfl (Nat.le_of_ble_eq_true rfl) (Nat.le_of_ble_eq_true rfl) rfl) rfl rfl ?_
    refine qev.mono h (fun v _ I1 _ h => ?_)
    obtain ⟨r1, rfl, h⟩ := h
    refine ⟨r1, rfl, ?_⟩
    refine e_iconst (pc' := 18) rfl rfl kc_m1 ?_
    refine e_icmp (r1 = (-1)) (pc' := 21) rfl rfl e_d (fun hc => ?_) (fun hc => ?_)
    · replace h := h.1 hc
      refine e_next (pc' := 24) rfl rfl ?_
      refine e_getR (pc' := 27) rfl rfl (hs.o rfl) (hs.a rfl) ?_
      refine e_next (pc' := 28) rfl rfl ?_
      refine e_getR (pc' := 31) rfl rfl (hs.o rfl) (hs.a rfl) ?_
      refine e_iconst (pc' := 32) rfl rfl kc_0 ?_
      refine e_next (pc' := 33) rfl rfl ?_
      refine e_getR (pc' := 36) rfl rfl (hs.o rfl) (hs.a rfl) ?_
      refine e_ciI (pc' := 39) rfl (e_sV (as := [_, _, _]) (fun _ => rfl) (Or.inl rfl) rfl (hs.o rfl) rfl rfl (Nat.le_of_ble_eq_true rfl) (Nat.le_of_ble_eq_true rfl) rfl) rfl rfl ?_
      refine qev.mono h (fun v _ I2 _ h => ?_)
      obtain ⟨r2, rfl, h⟩ := h
      refine ⟨r2, rfl, ?_⟩
      exact e_iret rfl h
    · replace h := h.2 hc
      refine e_iconst (pc' := 22) rfl rfl kc_1 ?_
      exact e_iret rfl h
  · replace h := h.1 (Decidable.not_not.mp hc)
    refine e_iconst (pc' := 8) rfl rfl kc_0 ?_
    exact e_iret rfl h
theorem w139 {d : Nat} {x1 : Int32} {g : qG} {I : qI} {J : qJ} {Q : qQ} (hs : qSh g)  (h : qC d 39 [.ref 101, .ref 89] g I J (fun v g1 I1 J1 => v = none ∧ qSh g1 ∧ qC d 42 [.ref 33] g1 I1 J1 (fun v _ _ _ => ∃ r1, v = some (va_rf r1) ∧ ∃ b1, r1 = some b1 ∧ qSer g1 b1 ∧ qC d 83 [.ref 89, .int x1, .ref b1] g1 I1 J1 (fun v _ I2 _ => v = none ∧ qC d 85 [.ref 89, .int (nI 0), .int x1] g1 I2 J1 (fun v _ I3 _ => v = none ∧ ∃ k1, x1 = nI k1 ∧ k1 < 8 ∧ Q (some (.int (I3 90 k1))) g1 I3 J1))))) : qC (d + 1) 139 [.ref 4, .int x1] g I J Q := by
  show qev (d + 1) 139 (0, [.ref 4, .int x1], [], g, I, J) Q
  refine e_next (pc' := 1) rfl rfl ?_
  refine e_getR (pc' := 4) rfl rfl (hs.o rfl) (hs.a rfl) ?_
  refine e_next (pc' := 5) rfl rfl ?_
  refine e_getR (pc' := 8) rfl rfl (hs.o rfl) (hs.a rfl) ?_
  refine e_cgV (pc' := 11) rfl (e_sV (as := [_]) (fun _ => rfl) (Or.inl rfl) rfl (hs.o rfl) rfl rfl (Nat.le_of_ble_eq_true rfl) (Nat.le_of_ble_eq_true rfl) rfl) ?_
  refine qev.mono h (fun v g1 I1 J1 h => ?_)
  obtain ⟨rfl, h⟩ := h
  refine ⟨rfl, ?_⟩
  obtain ⟨hs, h⟩ := h
  refine e_next (pc' := 12) rfl rfl ?_
  refine e_getR (pc' := 15) rfl rfl (hs.o rfl) (hs.a rfl) ?_
  refine e_next (pc' := 16) rfl rfl ?_
  refine e_next (pc' := 17) rfl rfl ?_
  refine e_getR (pc' := 20) rfl rfl (hs.o rfl) (hs.a rfl) ?_
  refine e_cpA (pc' := 23) rfl (e_sV (as := []) (fun _ => rfl) (Or.inl rfl) rfl (hs.o rfl) rfl rfl (Nat.le_of_ble_eq_true rfl) (Nat.le_of_ble_eq_true rfl) rfl) rfl rfl rfl ?_
  refine qev.mono h (fun v _ _ _ h => ?_)
  obtain ⟨r1, rfl, h⟩ := h
  refine ⟨r1, rfl, ?_⟩
  obtain ⟨b1, hc_b1, h_b1, h⟩ := h
  subst hc_b1
  refine e_ciV (pc' := 26) rfl (e_sV (as := [_, _]) (fun _ => rfl) (Or.inl rfl) rfl (hs.o rfl) rfl rfl (Nat.le_of_ble_eq_true rfl) (Nat.le_of_ble_eq_true rfl) rfl) rfl rfl ?_
  refine qev.mono h (fun v _ I2 _ h => ?_)
  obtain ⟨rfl, h⟩ := h
  refine ⟨rfl, ?_⟩
  refine e_next (pc' := 27) rfl rfl ?_
  refine e_getR (pc' := 30) rfl rfl (hs.o rfl) (hs.a rfl) ?_
  refine e_iconst (pc' := 31) rfl rfl kc_0 ?_
  refine e_next (pc' := 32) rfl rfl ?_
  refine e_ciV (pc' := 35) rfl (e_sV (as := [_, _]) (fun _ => rfl) (Or.inl rfl) rfl (hs.o rfl) rfl rfl (Nat.le_of_ble_eq_true rfl) (Nat.le_of_ble_eq_true rfl) rfl) rfl rfl ?_
  refine qev.mono h (fun v _ I3 _ h => ?_)
  obtain ⟨rfl, h⟩ := h
  refine ⟨rfl, ?_⟩
  refine e_next (pc' := 36) rfl rfl ?_
  refine e_getR (pc' := 39) rfl rfl (hs.o rfl) (hs.a rfl) ?_
  refine e_getR (pc' := 42) rfl rfl (hs.o rfl) (hs.a rfl) ?_
  refine e_next (pc' := 43) rfl rfl ?_
  obtain ⟨k1, hi_k1, hj_k1, h⟩ := h
  refine e_iald k1 (pc' := 44) rfl rfl (hs.k rfl) hi_k1 hj_k1 (by decide) ?_
  exact e_iret rfl h
theorem w140 {d : Nat} {x1 : Nat} {n_x1 : Nat} {g : qG} {I : qI} {J : qJ} {Q : qQ} (hs : qSh g) (h_x1 : qCod g x1 n_x1) (h : qC d 80 [.ref 93, .ref 89] g I J (fun v _ I1 _ => v = none ∧ qev (d + 1) 140 (13, [.ref 4, .ref x1, .int (nI 0), qpad], [], g, I1, J) Q)) : qC (d + 1) 140 [.ref 4, .ref x1] g I J Q := by
  show qev (d + 1) 140 (0, [.ref 4, .ref x1, qpad, qpad], [], g, I, J) Q
  refine e_next (pc' := 1) rfl rfl ?_
  refine e_getR (pc' := 4) rfl rfl (hs.o rfl) (hs.a rfl) ?_
  refine e_next (pc' := 5) rfl rfl ?_
  refine e_getR (pc' := 8) rfl rfl (hs.o rfl) (hs.a rfl) ?_
  refine e_ciV (pc' := 11) rfl (e_sV (as := [_]) (fun _ => rfl) (Or.inl rfl) rfl (hs.o rfl) rfl rfl (Nat.le_of_ble_eq_true rfl) (Nat.le_of_ble_eq_true rfl) rfl) rfl rfl ?_
  refine qev.mono h (fun v _ I1 _ h => ?_)
  obtain ⟨rfl, h⟩ := h
  refine ⟨rfl, ?_⟩
  refine e_iconst (pc' := 12) rfl rfl kc_0 ?_
  refine e_next (pc' := 13) (ls' := [_, _, _, _]) rfl rfl ?_
  exact h
theorem w140_13 {d : Nat} {x1 : Nat} {n_x1 : Nat} {i2 : Int32} {w3 : Value} {g : qG} {I : qI} {J : qJ} {Q : qQ} (hs : qSh g) (h_x1 : qCod g x1 n_x1) (h : (((I x1 3) ≤ i2 → Q (some (.int (-1))) g I J) ∧ (¬ (I x1 3) ≤ i2 → qC d 43 [.ref 33, .ref x1, .int i2, .ref 93] g I J (fun v _ I1 _ => ∃ r1, v = some (.int r1) ∧ ((r1 = (-1) → ∃ k1, i2 = nI k1 ∧ k1 < 8 ∧ qC d 42 [.ref 33] g I1 J (fun v _ _ _ => ∃ r2, v = some (va_rf r2) ∧ ∃ b1, r2 = some b1 ∧ qSer g b1 ∧ qC d 83 [.ref 93, .int (I1 (x1 + 2) k1), .ref b1] g I1 J (fun v _ I2 _ => v = none ∧ ∃ k2, i2 = nI k2 ∧ k2 < 8 ∧ qC d 85 [.ref 93, .int (nI 0), .int (I2 (x1 + 2) k2)] g I2 J (fun v _ I3 _ => v = none ∧ qev (d + 1) 140 (13, [.ref 4, .ref x1, .int (i2 + (nI 1)), .int r1], [], g, I3, J) Q)))) ∧ (¬ r1 = (-1) → Q (some (.int r1)) g (qw I1 4 16 i2) J)))))) : qev (d + 1) 140 (13, [.ref 4, .ref x1, .int i2, w3], [], g, I, J) Q := by
  refine e_next (pc' := 14) rfl rfl ?_
  refine e_next (pc' := 15) rfl rfl ?_
  refine e_getI (pc' := 18) rfl (Or.inl rfl) rfl h_x1.o ?_
  refine e_icmp ((I x1 3) ≤ i2) (pc' := 21) rfl rfl e_d (fun hc => ?_) (fun hc => ?_)
  · replace h := h.1 hc
    refine e_iconst (pc' := 88) rfl rfl kc_m1 ?_
    exact e_iret rfl h
  · replace h := h.2 hc
    refine e_next (pc' := 22) rfl rfl ?_
    refine e_getR (pc' := 25) rfl rfl (hs.o rfl) (hs.a rfl) ?_
    refine e_next (pc' := 26) rfl rfl ?_
    refine e_next (pc' := 27) rfl rfl ?_
    refine e_next (pc' := 28) rfl rfl ?_
    refine e_getR (pc' := 31) rfl rfl (hs.o rfl) (hs.a rfl) ?_
    refine e_ciI (pc' := 34) rfl (e_sV (as := [_, _, _]) (fun _ => rfl) (Or.inl rfl) rfl (hs.o rfl) rfl rfl (Nat.le_of_ble_eq_true rfl) (Nat.le_of_ble_eq_true rfl) rfl) rfl rfl ?_
    refine qev.mono h (fun v _ I1 _ h => ?_)
    obtain ⟨r1, rfl, h⟩ := h
    refine ⟨r1, rfl, ?_⟩
    refine e_next (pc' := 35) (ls' := [_, _, _, _]) rfl rfl ?_
    refine e_next (pc' := 36) rfl rfl ?_
    refine e_iconst (pc' := 37) rfl rfl kc_m1 ?_
    refine e_icmp (r1 = (-1)) (pc' := 40) rfl rfl e_d (fun hc => ?_) (fun hc => ?_)
    · replace h := h.1 hc
      refine e_next (pc' := 48) rfl rfl ?_
      refine e_getR (pc' := 51) rfl rfl (hs.o rfl) (hs.a rfl) ?_
      refine e_next (pc' := 52) rfl rfl ?_
      refine e_getR (pc' := 55) rfl rfl h_x1.o h_x1.a2 ?_
      refine e_next (pc' := 56) rfl rfl ?_
      obtain ⟨k1, hi_k1, hj_k1, h⟩ := h
      refine e_iald k1 (pc' := 57) rfl rfl h_x1.k2 hi_k1 hj_k1 (by decide) ?_
      refine e_next (pc' := 58) rfl rfl ?_
      refine e_getR (pc' := 61) rfl rfl (hs.o rfl) (hs.a rfl) ?_
      refine e_cpA (pc' := 64) rfl (e_sV (as := []) (fun _ => rfl) (Or.inl rfl) rfl (hs.o rfl) rfl rfl (Nat.le_of_ble_eq_true rfl) (Nat.le_of_ble_eq_true rfl) rfl) rfl rfl rfl ?_
      refine qev.mono h (fun v _ _ _ h => ?_)
      obtain ⟨r2, rfl, h⟩ := h
      refine ⟨r2, rfl, ?_⟩
      obtain ⟨b1, hc_b1, h_b1, h⟩ := h
      subst hc_b1
      refine e_ciV (pc' := 67) rfl (e_sV (as := [_, _]) (fun _ => rfl) (Or.inl rfl) rfl (hs.o rfl) rfl rfl (Nat.le_of_ble_eq_true rfl) (Nat.le_of_ble_eq_true rfl) rfl) rfl rfl ?_
      refine qev.mono h (fun v _ I2 _ h => ?_)
      obtain ⟨rfl, h⟩ := h
      refine ⟨rfl, ?_⟩
      refine e_next (pc' := 68) rfl rfl ?_
      refine e_getR (pc' := 71) rfl rfl (hs.o rfl) (hs.a rfl) ?_
      refine e_iconst (pc' := 72) rfl rfl kc_0 ?_
      refine e_next (pc' := 73) rfl rfl ?_
      refine e_getR (pc' := 76) rfl rfl h_x1.o h_x1.a2 ?_
      refine e_next (pc' := 77) rfl rfl ?_
      obtain ⟨k2, hi_k2, hj_k2, h⟩ := h
      refine e_iald k2 (pc' := 78) rfl rfl h_x1.k2 hi_k2 hj_k2 (by decide) ?_
      refine e_ciV (pc' := 81) rfl (e_sV (as := [_, _]) (fun _ => rfl) (Or.inl rfl) rfl (hs.o rfl) rfl rfl (Nat.le_of_ble_eq_true rfl) (Nat.le_of_ble_eq_true rfl) rfl) rfl rfl ?_
      refine qev.mono h (fun v _ I3 _ h => ?_)
      obtain ⟨rfl, h⟩ := h
      refine ⟨rfl, ?_⟩
      refine e_iinc (pc' := 84) (ls' := [_, _, _, _]) (v := (nI 1)) rfl rfl kc_1 rfl rfl ?_
      refine e_next (pc' := 13) rfl rfl ?_
      exact h
    · replace h := h.2 hc
      refine e_next (pc' := 41) rfl rfl ?_
      refine e_next (pc' := 42) rfl rfl ?_
      refine e_putI (pc' := 45) rfl rfl (hs.o rfl) ?_
      refine e_next (pc' := 46) rfl rfl ?_
      exact e_iret rfl h
theorem w141 {d : Nat} {x1 : Int32} {g : qG} {I : qI} {J : qJ} {Q : qQ} (hs : qSh g)  (h : (((nI 1) ≤ x1 → ¬ (Int32.toInt64 x1) = 0 ∧ Q (some (.int (Int64.toInt32 (qremL (qushrL ((qw J 4 17 (((J 4 17) * (lN 6364136223846793005)) + (lN 1442695040888963407))) 4 17) (nI 33)) (Int32.toInt64 x1))))) g I (qw J 4 17 (((J 4 17) * (lN 6364136223846793005)) + (lN 1442695040888963407)))) ∧ (¬ (nI 1) ≤ x1 → Q (some (.int (nI 0))) g I (qw J 4 17 (((J 4 17) * (lN 6364136223846793005)) + (lN 1442695040888963407)))))) : qC d 141 [.ref 4, .int x1] g I J Q := by
  show qev d 141 (0, [.ref 4, .int x1], [], g, I, J) Q
  refine e_next (pc' := 1) rfl rfl ?_
  refine e_next (pc' := 2) rfl rfl ?_
  refine e_getJ (pc' := 5) rfl rfl (hs.o rfl) ?_
  refine e_ldc2 (pc' := 8) rfl rfl kN_6364136223846793005 ?_
  refine e_next (pc' := 9) rfl rfl ?_
  refine e_ldc2 (pc' := 12) rfl rfl kN_1442695040888963407 ?_
  refine e_next (pc' := 13) rfl rfl ?_
  refine e_putJ (pc' := 16) rfl rfl (hs.o rfl) ?_
  refine e_next (pc' := 17) rfl rfl ?_
  refine e_iconst (pc' := 18) rfl rfl kc_1 ?_
  refine e_icmp ((nI 1) ≤ x1) (pc' := 21) rfl rfl e_d (fun hc => ?_) (fun hc => ?_)
  · replace h := h.1 hc
    refine e_next (pc' := 26) rfl rfl ?_
    refine e_getJ (pc' := 29) rfl rfl (hs.o rfl) ?_
    refine e_bipush (pc' := 31) rfl rfl kb_33 ?_
    refine e_next (pc' := 32) rfl rfl ?_
    refine e_next (pc' := 33) rfl rfl ?_
    refine e_next (pc' := 34) rfl rfl ?_
    obtain ⟨hz1, h⟩ := h
    refine e_lrem (pc' := 35) rfl rfl hz1 ?_
    refine e_next (pc' := 36) rfl rfl ?_
    exact e_iret rfl h
  · replace h := h.2 hc
    refine e_iconst (pc' := 22) rfl rfl kc_0 ?_
    refine e_next (pc' := 36) rfl rfl ?_
    exact e_iret rfl h
theorem w142 {d : Nat}  {g : qG} {I : qI} {J : qJ} {Q : qQ} (hs : qSh g)  (h : qC d 30 [.ref 7] g I J (fun v _ I1 _ => v = none ∧ qC d 141 [.ref 4, .int (nI 8)] g I1 J (fun v _ I2 J1 => ∃ r1, v = some (.int r1) ∧ qC d 31 [.ref 7, .int r1] g I2 J1 (fun v _ I3 _ => ∃ r2, v = some (.int r2) ∧ qC d 141 [.ref 4, .int (nI 6)] g I3 J1 (fun v _ I4 J2 => ∃ r3, v = some (.int r3) ∧ ((r3 = 0 → qC d 141 [.ref 4, .int (I4 12 7)] g I4 J2 (fun v _ I19 J7 => ∃ r18, v = some (.int r18) ∧ qC d 33 [.ref 7, .int (nI 0), .int r18] g I19 J7 (fun v _ I20 _ => ∃ r19, v = some (.int r19) ∧ qC d 141 [.ref 4, .int (I20 12 7)] g I20 J7 (fun v _ I21 J8 => ∃ r20, v = some (.int r20) ∧ qC d 33 [.ref 7, .int (nI 0), .int r20] g I21 J8 (fun v _ I22 _ => ∃ r21, v = some (.int r21) ∧ qC d 33 [.ref 7, .int (nI 1), .int (nI 0)] g I22 J8 (fun v _ I23 _ => ∃ r22, v = some (.int r22) ∧ qC d 33 [.ref 7, .int (nI 13), .int (nI 0)] g I23 J8 (fun v _ I24 _ => ∃ r23, v = some (.int r23) ∧ qC d 33 [.ref 7, .int (nI 11), .int (nI 0)] g I24 J8 (fun v _ I25 _ => ∃ r24, v = some (.int r24) ∧ qC d 32 [.ref 7] g I25 J8 (fun v _ I26 _ => ∃ r25, v = some (.int r25) ∧ Q none g I26 J8))))))))) ∧ (¬ r3 = 0 → ((r3 = (nI 1) → qev (d + 1) 142 (117, [.ref 4, .int r3], [], g, I4, J2) Q) ∧ (¬ r3 = (nI 1) → ((r3 = (nI 2) → qev (d + 1) 142 (117, [.ref 4, .int r3], [], g, I4, J2) Q) ∧ (¬ r3 = (nI 2) → ((r3 = (nI 3) → qC d 141 [.ref 4, .int (nI 8)] g I4 J2 (fun v _ I15 J6 => ∃ r14, v = some (.int r14) ∧ qC d 33 [.ref 7, .int (nI 2), .int r14] g I15 J6 (fun v _ I16 _ => ∃ r15, v = some (.int r15) ∧ qC d 33 [.ref 7, .int (nI 4), .int (nI 0)] g I16 J6 (fun v _ I17 _ => ∃ r16, v = some (.int r16) ∧ qC d 32 [.ref 7] g I17 J6 (fun v _ I18 _ => ∃ r17, v = some (.int r17) ∧ Q none g I18 J6))))) ∧ (¬ r3 = (nI 3) → ((r3 = (nI 4) → qC d 33 [.ref 7, .int (nI 0), .int (nI 1)] g I4 J2 (fun v _ I10 _ => ∃ r9, v = some (.int r9) ∧ qC d 141 [.ref 4, .int (nI 8)] g I10 J2 (fun v _ I11 J5 => ∃ r10, v = some (.int r10) ∧ qC d 33 [.ref 7, .int (nI 2), .int r10] g I11 J5 (fun v _ I12 _ => ∃ r11, v = some (.int r11) ∧ qC d 33 [.ref 7, .int (nI 14), .int (nI 0)] g I12 J5 (fun v _ I13 _ => ∃ r12, v = some (.int r12) ∧ qC d 32 [.ref 7] g I13 J5 (fun v _ I14 _ => ∃ r13, v = some (.int r13) ∧ Q none g I14 J5)))))) ∧ (¬ r3 = (nI 4) → qC d 141 [.ref 4, .int (nI 8)] g I4 J2 (fun v _ I5 J3 => ∃ r4, v = some (.int r4) ∧ qC d 33 [.ref 7, .int (nI 2), .int r4] g I5 J3 (fun v _ I6 _ => ∃ r5, v = some (.int r5) ∧ qC d 141 [.ref 4, .int (I6 12 8)] g I6 J3 (fun v _ I7 J4 => ∃ r6, v = some (.int r6) ∧ qC d 33 [.ref 7, .int (nI 10), .int (r6 + (nI 1))] g I7 J4 (fun v _ I8 _ => ∃ r7, v = some (.int r7) ∧ qC d 32 [.ref 7] g I8 J4 (fun v _ I9 _ => ∃ r8, v = some (.int r8) ∧ Q none g I9 J4)))))))))))))))))))) : qC (d + 1) 142 [.ref 4] g I J Q := by
  show qev (d + 1) 142 (0, [.ref 4, qpad], [], g, I, J) Q
  refine e_next (pc' := 1) rfl rfl ?_
  refine e_getR (pc' := 4) rfl rfl (hs.o rfl) (hs.a rfl) ?_
  refine e_ciV (pc' := 7) rfl (e_sV (as := []) (fun _ => rfl) (Or.inl rfl) rfl (hs.o rfl) rfl rfl (Nat.le_of_ble_eq_true rfl) (Nat.le_of_ble_eq_true rfl) rfl) rfl rfl ?_
  refine qev.mono h (fun v _ I1 _ h => ?_)
  obtain ⟨rfl, h⟩ := h
  refine ⟨rfl, ?_⟩
  refine e_next (pc' := 8) rfl rfl ?_
  refine e_getR (pc' := 11) rfl rfl (hs.o rfl) (hs.a rfl) ?_
  refine e_next (pc' := 12) rfl rfl ?_
  refine e_bipush (pc' := 14) rfl rfl kb_8 ?_
  refine e_cjI (pc' := 17) rfl (e_sV (as := [_]) (fun _ => rfl) (Or.inl rfl) rfl (hs.o rfl) rfl rfl (Nat.le_of_ble_eq_true rfl) (Nat.le_of_ble_eq_true rfl) rfl) rfl ?_
  refine qev.mono h (fun v _ I2 J1 h => ?_)
  obtain ⟨r1, rfl, h⟩ := h
  refine ⟨r1, rfl, ?_⟩
  refine e_ciI (pc' := 20) rfl (e_sV (as := [_]) (fun _ => rfl) (Or.inl rfl) rfl (hs.o rfl) rfl rfl (Nat.le_of_ble_eq_true rfl) (Nat.le_of_ble_eq_true rfl) rfl) rfl rfl ?_
  refine qev.mono h (fun v _ I3 _ h => ?_)
  obtain ⟨r2, rfl, h⟩ := h
  refine ⟨r2, rfl, ?_⟩
  refine e_next (pc' := 21) rfl rfl ?_
  refine e_next (pc' := 22) rfl rfl ?_
  refine e_bipush (pc' := 24) rfl rfl kb_6 ?_
  refine e_cjI (pc' := 27) rfl (e_sV (as := [_]) (fun _ => rfl) (Or.inl rfl) rfl (hs.o rfl) rfl rfl (Nat.le_of_ble_eq_true rfl) (Nat.le_of_ble_eq_true rfl) rfl) rfl ?_
  refine qev.mono h (fun v _ I4 J2 h => ?_)
  obtain ⟨r3, rfl, h⟩ := h
  refine ⟨r3, rfl, ?_⟩
  refine e_next (pc' := 28) (ls' := [_, _]) rfl rfl ?_
  refine e_next (pc' := 29) rfl rfl ?_
  refine e_if (¬ r3 = 0) (pc' := 32) rfl rfl e_d (fun hc => ?_) (fun hc => ?_)
  · replace h := h.2 hc
    refine e_next (pc' := 108) rfl rfl ?_
    refine e_iconst (pc' := 109) rfl rfl kc_1 ?_
    refine e_icmp (r3 = (nI 1)) (pc' := 112) rfl rfl e_d (fun hc => ?_) (fun hc => ?_)
    · replace h := h.1 hc
      exact h
    · replace h := h.2 hc
      refine e_next (pc' := 113) rfl rfl ?_
      refine e_iconst (pc' := 114) rfl rfl kc_2 ?_
      refine e_icmp (¬ r3 = (nI 2)) (pc' := 117) rfl rfl e_d (fun hc => ?_) (fun hc => ?_)
      · replace h := h.2 hc
        refine e_next (pc' := 172) rfl rfl ?_
        refine e_iconst (pc' := 173) rfl rfl kc_3 ?_
        refine e_icmp (¬ r3 = (nI 3)) (pc' := 176) rfl rfl e_d (fun hc => ?_) (fun hc => ?_)
        · replace h := h.2 hc
          refine e_next (pc' := 205) rfl rfl ?_
          refine e_iconst (pc' := 206) rfl rfl kc_4 ?_
          refine e_icmp (¬ r3 = (nI 4)) (pc' := 209) rfl rfl e_d (fun hc => ?_) (fun hc => ?_)
          · replace h := h.2 hc
            refine e_next (pc' := 249) rfl rfl ?_
            refine e_getR (pc' := 252) rfl rfl (hs.o rfl) (hs.a rfl) ?_
            refine e_iconst (pc' := 253) rfl rfl kc_2 ?_
            refine e_next (pc' := 254) rfl rfl ?_
            refine e_bipush (pc' := 256) rfl rfl kb_8 ?_
            refine e_cjI (pc' := 259) rfl (e_sV (as := [_]) (fun _ => rfl) (Or.inl rfl) rfl (hs.o rfl) rfl rfl (Nat.le_of_ble_eq_true rfl) (Nat.le_of_ble_eq_true rfl) rfl) rfl ?_
            refine qev.mono h (fun v _ I5 J3 h => ?_)
            obtain ⟨r4, rfl, h⟩ := h
            refine ⟨r4, rfl, ?_⟩
            refine e_ciI (pc' := 262) rfl (e_sV (as := [_, _]) (fun _ => rfl) (Or.inl rfl) rfl (hs.o rfl) rfl rfl (Nat.le_of_ble_eq_true rfl) (Nat.le_of_ble_eq_true rfl) rfl) rfl rfl ?_
            refine qev.mono h (fun v _ I6 _ h => ?_)
            obtain ⟨r5, rfl, h⟩ := h
            refine ⟨r5, rfl, ?_⟩
            refine e_next (pc' := 263) rfl rfl ?_
            refine e_next (pc' := 264) rfl rfl ?_
            refine e_getR (pc' := 267) rfl rfl (hs.o rfl) (hs.a rfl) ?_
            refine e_bipush (pc' := 269) rfl rfl kb_10 ?_
            refine e_next (pc' := 270) rfl rfl ?_
            refine e_next (pc' := 271) rfl rfl ?_
            refine e_getR (pc' := 274) rfl rfl (hs.o rfl) (hs.a rfl) ?_
            refine e_getI (pc' := 277) rfl (Or.inl rfl) rfl (hs.o rfl) ?_
            refine e_cjI (pc' := 280) rfl (e_sV (as := [_]) (fun _ => rfl) (Or.inl rfl) rfl (hs.o rfl) rfl rfl (Nat.le_of_ble_eq_true rfl) (Nat.le_of_ble_eq_true rfl) rfl) rfl ?_
            refine qev.mono h (fun v _ I7 J4 h => ?_)
            obtain ⟨r6, rfl, h⟩ := h
            refine ⟨r6, rfl, ?_⟩
            refine e_iconst (pc' := 281) rfl rfl kc_1 ?_
            refine e_next (pc' := 282) rfl rfl ?_
            refine e_ciI (pc' := 285) rfl (e_sV (as := [_, _]) (fun _ => rfl) (Or.inl rfl) rfl (hs.o rfl) rfl rfl (Nat.le_of_ble_eq_true rfl) (Nat.le_of_ble_eq_true rfl) rfl) rfl rfl ?_
            refine qev.mono h (fun v _ I8 _ h => ?_)
            obtain ⟨r7, rfl, h⟩ := h
            refine ⟨r7, rfl, ?_⟩
            refine e_next (pc' := 286) rfl rfl ?_
            refine e_next (pc' := 287) rfl rfl ?_
            refine e_getR (pc' := 290) rfl rfl (hs.o rfl) (hs.a rfl) ?_
            refine e_ciI (pc' := 293) rfl (e_sV (as := []) (fun _ => rfl) (Or.inl rfl) rfl (hs.o rfl) rfl rfl (Nat.le_of_ble_eq_true rfl) (Nat.le_of_ble_eq_true rfl) rfl) rfl rfl ?_
            refine qev.mono h (fun v _ I9 _ h => ?_)
            obtain ⟨r8, rfl, h⟩ := h
            refine ⟨r8, rfl, ?_⟩
            refine e_next (pc' := 294) rfl rfl ?_
            exact qev_ret rfl rfl h
          · replace h := h.1 (Decidable.not_not.mp hc)
            refine e_next (pc' := 210) rfl rfl ?_
            refine e_getR (pc' := 213) rfl rfl (hs.o rfl) (hs.a rfl) ?_
            refine e_iconst (pc' := 214) rfl rfl kc_0 ?_
            refine e_iconst (pc' := 215) rfl rfl kc_1 ?_
            refine e_ciI (pc' := 218) rfl (e_sV (as := [_, _]) (fun _ => rfl) (Or.inl rfl) rfl (hs.o rfl) rfl rfl (Nat.le_of_ble_eq_true rfl) (Nat.le_of_ble_eq_true rfl) rfl) rfl rfl ?_
            refine qev.mono h (fun v _ I10 _ h => ?_)
            obtain ⟨r9, rfl, h⟩ := h
            refine ⟨r9, rfl, ?_⟩
            refine e_next (pc' := 219) rfl rfl ?_
            refine e_next (pc' := 220) rfl rfl ?_
            refine e_getR (pc' := 223) rfl rfl (hs.o rfl) (hs.a rfl) ?_
            refine e_iconst (pc' := 224) rfl rfl kc_2 ?_
            refine e_next (pc' := 225) rfl rfl ?_
            refine e_bipush (pc' := 227) rfl rfl kb_8 ?_
            refine e_cjI (pc' := 230) rfl (e_sV (as := [_]) (fun _ => rfl) (Or.inl rfl) rfl (hs.o rfl) rfl rfl (Nat.le_of_ble_eq_true rfl) (Nat.le_of_ble_eq_true rfl) rfl) rfl ?_
            refine qev.mono h (fun v _ I11 J5 h => ?_)
            obtain ⟨r10, rfl, h⟩ := h
            refine ⟨r10, rfl, ?_⟩
            refine e_ciI (pc' := 233) rfl (e_sV (as := [_, _]) (fun _ => rfl) (Or.inl rfl) rfl (hs.o rfl) rfl rfl (Nat.le_of_ble_eq_true rfl) (Nat.le_of_ble_eq_true rfl) rfl) rfl rfl ?_
            refine qev.mono h (fun v _ I12 _ h => ?_)
            obtain ⟨r11, rfl, h⟩ := h
            refine ⟨r11, rfl, ?_⟩
            refine e_next (pc' := 234) rfl rfl ?_
            refine e_next (pc' := 235) rfl rfl ?_
            refine e_getR (pc' := 238) rfl rfl (hs.o rfl) (hs.a rfl) ?_
            refine e_bipush (pc' := 240) rfl rfl kb_14 ?_
            refine e_iconst (pc' := 241) rfl rfl kc_0 ?_
            refine e_ciI (pc' := 244) rfl (e_sV (as := [_, _]) (fun _ => rfl) (Or.inl rfl) rfl (hs.o rfl) rfl rfl (Nat.le_of_ble_eq_true rfl) (Nat.le_of_ble_eq_true rfl) rfl) rfl rfl ?_
            refine qev.mono h (fun v _ I13 _ h => ?_)
            obtain ⟨r12, rfl, h⟩ := h
            refine ⟨r12, rfl, ?_⟩
            refine e_next (pc' := 245) rfl rfl ?_
            refine e_next (pc' := 286) rfl rfl ?_
            refine e_next (pc' := 287) rfl rfl ?_
            refine e_getR (pc' := 290) rfl rfl (hs.o rfl) (hs.a rfl) ?_
            refine e_ciI (pc' := 293) rfl (e_sV (as := []) (fun _ => rfl) (Or.inl rfl) rfl (hs.o rfl) rfl rfl (Nat.le_of_ble_eq_true rfl) (Nat.le_of_ble_eq_true rfl) rfl) rfl rfl ?_
            refine qev.mono h (fun v _ I14 _ h => ?_)
            obtain ⟨r13, rfl, h⟩ := h
            refine ⟨r13, rfl, ?_⟩
            refine e_next (pc' := 294) rfl rfl ?_
            exact qev_ret rfl rfl h
        · replace h := h.1 (Decidable.not_not.mp hc)
          refine e_next (pc' := 177) rfl rfl ?_
          refine e_getR (pc' := 180) rfl rfl (hs.o rfl) (hs.a rfl) ?_
          refine e_iconst (pc' := 181) rfl rfl kc_2 ?_
          refine e_next (pc' := 182) rfl rfl ?_
          refine e_bipush (pc' := 184) rfl rfl kb_8 ?_
          refine e_cjI (pc' := 187) rfl (e_sV (as := [_]) (fun _ => rfl) (Or.inl rfl) rfl (hs.o rfl) rfl rfl (Nat.le_of_ble_eq_true rfl) (Nat.le_of_ble_eq_true rfl) rfl) rfl ?_
          refine qev.mono h (fun v _ I15 J6 h => ?_)
          obtain ⟨r14, rfl, h⟩ := h
          refine ⟨r14, rfl, ?_⟩
          refine e_ciI (pc' := 190) rfl (e_sV (as := [_, _]) (fun _ => rfl) (Or.inl rfl) rfl (hs.o rfl) rfl rfl (Nat.le_of_ble_eq_true rfl) (Nat.le_of_ble_eq_true rfl) rfl) rfl rfl ?_
          refine qev.mono h (fun v _ I16 _ h => ?_)
          obtain ⟨r15, rfl, h⟩ := h
          refine ⟨r15, rfl, ?_⟩
          refine e_next (pc' := 191) rfl rfl ?_
          refine e_next (pc' := 192) rfl rfl ?_
          refine e_getR (pc' := 195) rfl rfl (hs.o rfl) (hs.a rfl) ?_
          refine e_iconst (pc' := 196) rfl rfl kc_4 ?_
          refine e_iconst (pc' := 197) rfl rfl kc_0 ?_
          refine e_ciI (pc' := 200) rfl (e_sV (as := [_, _]) (fun _ => rfl) (Or.inl rfl) rfl (hs.o rfl) rfl rfl (Nat.le_of_ble_eq_true rfl) (Nat.le_of_ble_eq_true rfl) rfl) rfl rfl ?_
          refine qev.mono h (fun v _ I17 _ h => ?_)
          obtain ⟨r16, rfl, h⟩ := h
          refine ⟨r16, rfl, ?_⟩
          refine e_next (pc' := 201) rfl rfl ?_
          refine e_next (pc' := 286) rfl rfl ?_
          refine e_next (pc' := 287) rfl rfl ?_
          refine e_getR (pc' := 290) rfl rfl (hs.o rfl) (hs.a rfl) ?_
          refine e_ciI (pc' := 293) rfl (e_sV (as := []) (fun _ => rfl) (Or.inl rfl) rfl (hs.o rfl) rfl rfl (Nat.le_of_ble_eq_true rfl) (Nat.le_of_ble_eq_true rfl) rfl) rfl rfl ?_
          refine qev.mono h (fun v _ I18 _ h => ?_)
          obtain ⟨r17, rfl, h⟩ := h
          refine ⟨r17, rfl, ?_⟩
          refine e_next (pc' := 294) rfl rfl ?_
          exact qev_ret rfl rfl h
      · replace h := h.1 (Decidable.not_not.mp hc)
        exact h
  · replace h := h.1 (Decidable.not_not.mp hc)
    refine e_next (pc' := 33) rfl rfl ?_
    refine e_getR (pc' := 36) rfl rfl (hs.o rfl) (hs.a rfl) ?_
    refine e_iconst (pc' := 37) rfl rfl kc_0 ?_
    refine e_next (pc' := 38) rfl rfl ?_
    refine e_next (pc' := 39) rfl rfl ?_
    refine e_getR (pc' := 42) rfl rfl (hs.o rfl) (hs.a rfl) ?_
    refine e_getI (pc' := 45) rfl (Or.inl rfl) rfl (hs.o rfl) ?_
    refine e_cjI (pc' := 48) rfl (e_sV (as := [_]) (fun _ => rfl) (Or.inl rfl) rfl (hs.o rfl) rfl rfl (Nat.le_of_ble_eq_true rfl) (Nat.le_of_ble_eq_true rfl) rfl) rfl ?_
    refine qev.mono h (fun v _ I19 J7 h => ?_)
    obtain ⟨r18, rfl, h⟩ := h
    refine ⟨r18, rfl, ?_⟩
    refine e_ciI (pc' := 51) rfl (e_sV (as := [_, _]) (fun _ => rfl) (Or.inl rfl) rfl (hs.o rfl) rfl rfl (Nat.le_of_ble_eq_true rfl) (Nat.le_of_ble_eq_true rfl) rfl) rfl rfl ?_
    refine qev.mono h (fun v _ I20 _ h => ?_)
    obtain ⟨r19, rfl, h⟩ := h
    refine ⟨r19, rfl, ?_⟩
    refine e_next (pc' := 52) rfl rfl ?_
    refine e_next (pc' := 53) rfl rfl ?_
    refine e_getR (pc' := 56) rfl rfl (hs.o rfl) (hs.a rfl) ?_
    refine e_iconst (pc' := 57) rfl rfl kc_0 ?_
    refine e_next (pc' := 58) rfl rfl ?_
    refine e_next (pc' := 59) rfl rfl ?_
    refine e_getR (pc' := 62) rfl rfl (hs.o rfl) (hs.a rfl) ?_
    refine e_getI (pc' := 65) rfl (Or.inl rfl) rfl (hs.o rfl) ?_
    refine e_cjI (pc' := 68) rfl (e_sV (as := [_]) (fun _ => rfl) (Or.inl rfl) rfl (hs.o rfl) rfl rfl (Nat.le_of_ble_eq_true rfl) (Nat.le_of_ble_eq_true rfl) rfl) rfl ?_
    refine qev.mono h (fun v _ I21 J8 h => ?_)
    obtain ⟨r20, rfl, h⟩ := h
    refine ⟨r20, rfl, ?_⟩
    refine e_ciI (pc' := 71) rfl (e_sV (as := [_, _]) (fun _ => rfl) (Or.inl rfl) rfl (hs.o rfl) rfl rfl (Nat.le_of_ble_eq_true rfl) (Nat.le_of_ble_eq_true rfl) rfl) rfl rfl ?_
    refine qev.mono h (fun v _ I22 _ h => ?_)
    obtain ⟨r21, rfl, h⟩ := h
    refine ⟨r21, rfl, ?_⟩
    refine e_next (pc' := 72) rfl rfl ?_
    refine e_next (pc' := 73) rfl rfl ?_
    refine e_getR (pc' := 76) rfl rfl (hs.o rfl) (hs.a rfl) ?_
    refine e_iconst (pc' := 77) rfl rfl kc_1 ?_
    refine e_iconst (pc' := 78) rfl rfl kc_0 ?_
    refine e_ciI (pc' := 81) rfl (e_sV (as := [_, _]) (fun _ => rfl) (Or.inl rfl) rfl (hs.o rfl) rfl rfl (Nat.le_of_ble_eq_true rfl) (Nat.le_of_ble_eq_true rfl) rfl) rfl rfl ?_
    refine qev.mono h (fun v _ I23 _ h => ?_)
    obtain ⟨r22, rfl, h⟩ := h
    refine ⟨r22, rfl, ?_⟩
    refine e_next (pc' := 82) rfl rfl ?_
    refine e_next (pc' := 83) rfl rfl ?_
    refine e_getR (pc' := 86) rfl rfl (hs.o rfl) (hs.a rfl) ?_
    refine e_bipush (pc' := 88) rfl rfl kb_13 ?_
    refine e_iconst (pc' := 89) rfl rfl kc_0 ?_
    refine e_ciI (pc' := 92) rfl (e_sV (as := [_, _]) (fun _ => rfl) (Or.inl rfl) rfl (hs.o rfl) rfl rfl (Nat.le_of_ble_eq_true rfl) (Nat.le_of_ble_eq_true rfl) rfl) rfl rfl ?_
    refine qev.mono h (fun v _ I24 _ h => ?_)
    obtain ⟨r23, rfl, h⟩ := h
    refine ⟨r23, rfl, ?_⟩
    refine e_next (pc' := 93) rfl rfl ?_
    refine e_next (pc' := 94) rfl rfl ?_
    refine e_getR (pc' := 97) rfl rfl (hs.o rfl) (hs.a rfl) ?_
    refine e_bipush (pc' := 99) rfl rfl kb_11 ?_
    refine e_iconst (pc' := 100) rfl rfl kc_0 ?_
    refine e_ciI (pc' := 103) rfl (e_sV (as := [_, _]) (fun _ => rfl) (Or.inl rfl) rfl (hs.o rfl) rfl rfl (Nat.le_of_ble_eq_true rfl) (Nat.le_of_ble_eq_true rfl) rfl) rfl rfl ?_
    refine qev.mono h (fun v _ I25 _ h => ?_)
    obtain ⟨r24, rfl, h⟩ := h
    refine ⟨r24, rfl, ?_⟩
    refine e_next (pc' := 104) rfl rfl ?_
    refine e_next (pc' := 286) rfl rfl ?_
    refine e_next (pc' := 287) rfl rfl ?_
    refine e_getR (pc' := 290) rfl rfl (hs.o rfl) (hs.a rfl) ?_
    refine e_ciI (pc' := 293) rfl (e_sV (as := []) (fun _ => rfl) (Or.inl rfl) rfl (hs.o rfl) rfl rfl (Nat.le_of_ble_eq_true rfl) (Nat.le_of_ble_eq_true rfl) rfl) rfl rfl ?_
    refine qev.mono h (fun v _ I26 _ h => ?_)
    obtain ⟨r25, rfl, h⟩ := h
    refine ⟨r25, rfl, ?_⟩
    refine e_next (pc' := 294) rfl rfl ?_
    exact qev_ret rfl rfl h
theorem w142_117 {d : Nat} {i1 : Int32} {g : qG} {I : qI} {J : qJ} {Q : qQ} (hs : qSh g)  (h : qC d 141 [.ref 4, .int (nI 8)] g I J (fun v _ I1 J1 => ∃ r1, v = some (.int r1) ∧ qC d 33 [.ref 7, .int (nI 2), .int r1] g I1 J1 (fun v _ I2 _ => ∃ r2, v = some (.int r2) ∧ qC d 141 [.ref 4, .int (nI 8)] g I2 J1 (fun v _ I3 J2 => ∃ r3, v = some (.int r3) ∧ qC d 33 [.ref 7, .int (nI 2), .int r3] g I3 J2 (fun v _ I4 _ => ∃ r4, v = some (.int r4) ∧ ((i1 = (nI 1) → qC d 33 [.ref 7, .int (nI 11), .int (nI 0)] g I4 J2 (fun v _ I7 _ => ∃ r7, v = some (.int r7) ∧ qC d 32 [.ref 7] g I7 J2 (fun v _ I8 _ => ∃ r8, v = some (.int r8) ∧ Q none g I8 J2))) ∧ (¬ i1 = (nI 1) → qC d 33 [.ref 7, .int (nI 13), .int (nI 0)] g I4 J2 (fun v _ I5 _ => ∃ r5, v = some (.int r5) ∧ qC d 32 [.ref 7] g I5 J2 (fun v _ I6 _ => ∃ r6, v = some (.int r6) ∧ Q none g I6 J2))))))))) : qev (d + 1) 142 (117, [.ref 4, .int i1], [], g, I, J) Q := by
  refine e_next (pc' := 118) rfl rfl ?_
  refine e_getR (pc' := 121) rfl rfl (hs.o rfl) (hs.a rfl) ?_
  refine e_iconst (pc' := 122) rfl rfl kc_2 ?_
  refine e_next (pc' := 123) rfl rfl ?_
  refine e_bipush (pc' := 125) rfl rfl kb_8 ?_
  refine e_cjI (pc' := 128) rfl (e_sV (as := [_]) (fun _ => rfl) (Or.inl rfl) rfl (hs.o rfl) rfl rfl (Nat.le_of_ble_eq_true rfl) (Nat.le_of_ble_eq_true rfl) rfl) rfl ?_
  refine qev.mono h (fun v _ I1 J1 h => ?_)
  obtain ⟨r1, rfl, h⟩ := h
  refine ⟨r1, rfl, ?_⟩
  refine e_ciI (pc' := 131) rfl (e_sV (as := [_, _]) (fun _ => rfl) (Or.inl rfl) rfl (hs.o rfl) rfl rfl (Nat.le_of_ble_eq_true rfl) (Nat.le_of_ble_eq_true rfl) rfl) rfl rfl ?_
  refine qev.mono h (fun v _ I2 _ h => ?_)
  obtain ⟨r2, rfl, h⟩ := h
  refine ⟨r2, rfl, ?_⟩
  refine e_next (pc' := 132) rfl rfl ?_
  refine e_next (pc' := 133) rfl rfl ?_
  refine e_getR (pc' := 136) rfl rfl (hs.o rfl) (hs.a rfl) ?_
  refine e_iconst (pc' := 137) rfl rfl kc_2 ?_
  refine e_next (pc' := 138) rfl rfl ?_
  refine e_bipush (pc' := 140) rfl rfl kb_8 ?_
  refine e_cjI (pc' := 143) rfl (e_sV (as := [_]) (fun _ => rfl) (Or.inl rfl) rfl (hs.o rfl) rfl rfl (Nat.le_of_ble_eq_true rfl) (Nat.le_of_ble_eq_true rfl) rfl) rfl ?_
  refine qev.mono h (fun v _ I3 J2 h => ?_)
  obtain ⟨r3, rfl, h⟩ := h
  refine ⟨r3, rfl, ?_⟩
  refine e_ciI (pc' := 146) rfl (e_sV (as := [_, _]) (fun _ => rfl) (Or.inl rfl) rfl (hs.o rfl) rfl rfl (Nat.le_of_ble_eq_true rfl) (Nat.le_of_ble_eq_true rfl) rfl) rfl rfl ?_
  refine qev.mono h (fun v _ I4 _ h => ?_)
  obtain ⟨r4, rfl, h⟩ := h
  refine ⟨r4, rfl, ?_⟩
  refine e_next (pc' := 147) rfl rfl ?_
  refine e_next (pc' := 148) rfl rfl ?_
  refine e_getR (pc' := 151) rfl rfl (hs.o rfl) (hs.a rfl) ?_
  refine e_next (pc' := 152) rfl rfl ?_
  refine e_iconst (pc' := 153) rfl rfl kc_1 ?_
  refine e_icmp (¬ i1 = (nI 1)) (pc' := 156) rfl rfl e_d (fun hc => ?_) (fun hc => ?_)
  · replace h := h.2 hc
    refine e_bipush (pc' := 163) rfl rfl kb_13 ?_
    refine e_iconst (pc' := 164) rfl rfl kc_0 ?_
    refine e_ciI (pc' := 167) rfl (e_sV (as := [_, _]) (fun _ => rfl) (Or.inl rfl) rfl (hs.o rfl) rfl rfl (Nat.le_of_ble_eq_true rfl) (Nat.le_of_ble_eq_true rfl) rfl) rfl rfl ?_
    refine qev.mono h (fun v _ I5 _ h => ?_)
    obtain ⟨r5, rfl, h⟩ := h
    refine ⟨r5, rfl, ?_⟩
    refine e_next (pc' := 168) rfl rfl ?_
    refine e_next (pc' := 286) rfl rfl ?_
    refine e_next (pc' := 287) rfl rfl ?_
    refine e_getR (pc' := 290) rfl rfl (hs.o rfl) (hs.a rfl) ?_
    refine e_ciI (pc' := 293) rfl (e_sV (as := []) (fun _ => rfl) (Or.inl rfl) rfl (hs.o rfl) rfl rfl (Nat.le_of_ble_eq_true rfl) (Nat.le_of_ble_eq_true rfl) rfl) rfl rfl ?_
    refine qev.mono h (fun v _ I6 _ h => ?_)
    obtain ⟨r6, rfl, h⟩ := h
    refine ⟨r6, rfl, ?_⟩
    refine e_next (pc' := 294) rfl rfl ?_
    exact qev_ret rfl rfl h
  · replace h := h.1 (Decidable.not_not.mp hc)
    refine e_bipush (pc' := 158) rfl rfl kb_11 ?_
    refine e_next (pc' := 163) rfl rfl ?_
    refine e_iconst (pc' := 164) rfl rfl kc_0 ?_
    refine e_ciI (pc' := 167) rfl (e_sV (as := [_, _]) (fun _ => rfl) (Or.inl rfl) rfl (hs.o rfl) rfl rfl (Nat.le_of_ble_eq_true rfl) (Nat.le_of_ble_eq_true rfl) rfl) rfl rfl ?_
    refine qev.mono h (fun v _ I7 _ h => ?_)
    obtain ⟨r7, rfl, h⟩ := h
    refine ⟨r7, rfl, ?_⟩
    refine e_next (pc' := 168) rfl rfl ?_
    refine e_next (pc' := 286) rfl rfl ?_
    refine e_next (pc' := 287) rfl rfl ?_
    refine e_getR (pc' := 290) rfl rfl (hs.o rfl) (hs.a rfl) ?_
    refine e_ciI (pc' := 293) rfl (e_sV (as := []) (fun _ => rfl) (Or.inl rfl) rfl (hs.o rfl) rfl rfl (Nat.le_of_ble_eq_true rfl) (Nat.le_of_ble_eq_true rfl) rfl) rfl rfl ?_
    refine qev.mono h (fun v _ I8 _ h => ?_)
    obtain ⟨r8, rfl, h⟩ := h
    refine ⟨r8, rfl, ?_⟩
    refine e_next (pc' := 294) rfl rfl ?_
    exact qev_ret rfl rfl h
theorem w143 {d : Nat} {x1 : Int32} {x2 : Int32} {x3 : Int32} {x4 : Int32} {g : qG} {I : qI} {J : qJ} {Q : qQ} (hs : qSh g)  (h : (((I 4 14) = 0 → Q (some (.int (nI 0))) g I J) ∧ (¬ (I 4 14) = 0 → qC d 144 [.ref 4, .int (nI 0), .int x1] g I J (fun v _ I1 _ => ∃ r1, v = some (.int r1) ∧ ((r1 = 0 → Q (some (.int (nI 0))) g I1 J) ∧ (¬ r1 = 0 → qC d 144 [.ref 4, .int (nI 1), .int x2] g I1 J (fun v _ I2 _ => ∃ r2, v = some (.int r2) ∧ ((r2 = 0 → Q (some (.int (nI 0))) g I2 J) ∧ (¬ r2 = 0 → qC d 144 [.ref 4, .int (nI 2), .int x3] g I2 J (fun v _ I3 _ => ∃ r3, v = some (.int r3) ∧ ((r3 = 0 → Q (some (.int (nI 0))) g I3 J) ∧ (¬ r3 = 0 → qC d 144 [.ref 4, .int (nI 3), .int x4] g I3 J (fun v _ I4 _ => ∃ r4, v = some (.int r4) ∧ ((r4 = 0 → Q (some (.int (nI 0))) g I4 J) ∧ (¬ r4 = 0 → Q (some (.int (nI 1))) g I4 J))))))))))))))) : qC (d + 1) 143 [.ref 4, .int x1, .int x2, .int x3, .int x4] g I J Q := by
  show qev (d + 1) 143 (0, [.ref 4, .int x1, .int x2, .int x3, .int x4], [], g, I, J) Q
  refine e_next (pc' := 1) rfl rfl ?_
  refine e_getI (pc' := 4) rfl (Or.inr rfl) rfl (hs.o rfl) ?_
  refine e_if ((I 4 14) = 0) (pc' := 7) rfl rfl e_d (fun hc => ?_) (fun hc => ?_)
  · replace h := h.1 hc
    refine e_iconst (pc' := 49) rfl rfl kc_0 ?_
    exact e_zret rfl (Or.inl nI_0) h
  · replace h := h.2 hc
    refine e_next (pc' := 8) rfl rfl ?_
    refine e_iconst (pc' := 9) rfl rfl kc_0 ?_
    refine e_next (pc' := 10) rfl rfl ?_
    refine e_ciI (pc' := 13) rfl (e_sV (as := [_, _]) (fun _ => rfl) (Or.inl rfl) rfl (hs.o rfl) rfl rfl (Nat.le_of_ble_eq_true rfl) (Nat.le_of_ble_eq_true rfl) rfl) rfl rfl ?_
    refine qev.mono h (fun v _ I1 _ h => ?_)
    obtain ⟨r1, rfl, h⟩ := h
    refine ⟨r1, rfl, ?_⟩
    refine e_if (r1 = 0) (pc' := 16) rfl rfl e_d (fun hc => ?_) (fun hc => ?_)
    · replace h := h.1 hc
      refine e_iconst (pc' := 49) rfl rfl kc_0 ?_
      exact e_zret rfl (Or.inl nI_0) h
    · replace h := h.2 hc
      refine e_next (pc' := 17) rfl rfl ?_
      refine e_iconst (pc' := 18) rfl rfl kc_1 ?_
      refine e_next (pc' := 19) rfl rfl ?_
      refine e_ciI (pc' := 22) rfl (e_sV (as := [_, _]) (fun _ => rfl) (Or.inl rfl) rfl (hs.o rfl) rfl rfl (Nat.le_of_ble_eq_true rfl) (Nat.le_of_ble_eq_true rfl) rfl) rfl rfl ?_
      refine qev.mono h (fun v _ I2 _ h => ?_)
      obtain ⟨r2, rfl, h⟩ := h
      refine ⟨r2, rfl, ?_⟩
      refine e_if (r2 = 0) (pc' := 25) rfl rfl e_d (fun hc => ?_) (fun hc => ?_)
      · replace h := h.1 hc
        refine e_iconst (pc' := 49) rfl rfl kc_0 ?_
        exact e_zret rfl (Or.inl nI_0) h
      · replace h := h.2 hc
        refine e_next (pc' := 26) rfl rfl ?_
        refine e_iconst (pc' := 27) rfl rfl kc_2 ?_
        refine e_next (pc' := 28) rfl rfl ?_
        refine e_ciI (pc' := 31) rfl (e_sV (as := [_, _]) (fun _ => rfl) (Or.inl rfl) rfl (hs.o rfl) rfl rfl (Nat.le_of_ble_eq_true rfl) (Nat.le_of_ble_eq_true rfl) rfl) rfl rfl ?_
        refine qev.mono h (fun v _ I3 _ h => ?_)
        obtain ⟨r3, rfl, h⟩ := h
        refine ⟨r3, rfl, ?_⟩
        refine e_if (r3 = 0) (pc' := 34) rfl rfl e_d (fun hc => ?_) (fun hc => ?_)
        · replace h := h.1 hc
          refine e_iconst (pc' := 49) rfl rfl kc_0 ?_
          exact e_zret rfl (Or.inl nI_0) h
        · replace h := h.2 hc
          refine e_next (pc' := 35) rfl rfl ?_
          refine e_iconst (pc' := 36) rfl rfl kc_3 ?_
          refine e_next (pc' := 38) rfl rfl ?_
          refine e_ciI (pc' := 41) rfl (e_sV (as := [_, _]) (fun _ => rfl) (Or.inl rfl) rfl (hs.o rfl) rfl rfl (Nat.le_of_ble_eq_true rfl) (Nat.le_of_ble_eq_true rfl) rfl) rfl rfl ?_
          refine qev.mono h (fun v _ I4 _ h => ?_)
          obtain ⟨r4, rfl, h⟩ := h
          refine ⟨r4, rfl, ?_⟩
          refine e_if (r4 = 0) (pc' := 44) rfl rfl e_d (fun hc => ?_) (fun hc => ?_)
          · replace h := h.1 hc
            refine e_iconst (pc' := 49) rfl rfl kc_0 ?_
            exact e_zret rfl (Or.inl nI_0) h
          · replace h := h.2 hc
            refine e_iconst (pc' := 45) rfl rfl kc_1 ?_
            refine e_next (pc' := 49) rfl rfl ?_
            exact e_zret rfl (Or.inr nI_one) h
theorem w144 {d : Nat} {x1 : Int32} {x2 : Int32} {g : qG} {I : qI} {J : qJ} {Q : qQ} (hs : qSh g)  (h : ((x2 = (-1) → ∃ k2, x1 = nI k2 ∧ k2 < 4 ∧ qC d 5 [.ref 12, .ref (25 + 2 * k2), .int (nI 0)] g I J (fun v _ I2 _ => v = none ∧ Q (some (.int (nI 1))) g I2 J)) ∧ (¬ x2 = (-1) → qC d 135 [.ref 4, .int x2] g I J (fun v _ _ _ => ∃ r1, v = some (.int r1) ∧ ((r1 = 0 → Q (some (.int (nI 0))) g I J) ∧ (¬ r1 = 0 → ∃ k1, x1 = nI k1 ∧ k1 < 4 ∧ qC d 82 [.ref 89, .int x2, .ref (25 + 2 * k1)] g I J (fun v _ I1 _ => v = none ∧ Q (some (.int (nI 1))) g I1 J))))))) : qC (d + 1) 144 [.ref 4, .int x1, .int x2] g I J Q := by
  show qev (d + 1) 144 (0, [.ref 4, .int x1, .int x2], [], g, I, J) Q
  refine e_next (pc' := 1) rfl rfl ?_
  refine e_iconst (pc' := 2) rfl rfl kc_m1 ?_
  refine e_icmp (¬ x2 = (-1)) (pc' := 5) rfl rfl e_d (fun hc => ?_) (fun hc => ?_)
  · replace h := h.2 hc
    refine e_next (pc' := 25) rfl rfl ?_
    refine e_next (pc' := 26) rfl rfl ?_
    refine e_cpI (pc' := 29) rfl (e_sV (as := [_]) (fun _ => rfl) (Or.inl rfl) rfl (hs.o rfl) rfl rfl (Nat.le_of_ble_eq_true rfl) (Nat.le_of_ble_eq_true rfl) rfl) rfl rfl rfl ?_
    refine qev.mono h (fun v _ _ _ h => ?_)
    obtain ⟨r1, rfl, h⟩ := h
    refine ⟨r1, rfl, ?_⟩
    refine e_if (¬ r1 = 0) (pc' := 32) rfl rfl e_d (fun hc => ?_) (fun hc => ?_)
    · replace h := h.2 hc
      refine e_next (pc' := 35) rfl rfl ?_
      refine e_getR (pc' := 38) rfl rfl (hs.o rfl) (hs.a rfl) ?_
      refine e_next (pc' := 39) rfl rfl ?_
      refine e_next (pc' := 40) rfl rfl ?_
      refine e_getR (pc' := 43) rfl rfl (hs.o rfl) (hs.a rfl) ?_
      refine e_getR (pc' := 46) rfl rfl (hs.o rfl) (hs.a rfl) ?_
      refine e_next (pc' := 47) rfl rfl ?_
      obtain ⟨k1, hi_k1, hj_k1, h⟩ := h
      refine e_aaldR k1 (pc' := 48) rfl rfl (hs.k rfl) rfl hi_k1 hj_k1 (by decide) (hs.cubic hj_k1) ?_
      refine e_ciV (pc' := 51) rfl (e_sV (as := [_, _]) (fun _ => rfl) (Or.inl rfl) rfl (hs.o rfl) rfl rfl (Nat.le_of_ble_eq_true rfl) (Nat.le_of_ble_eq_true rfl) rfl) rfl rfl ?_
      refine qev.mono h (fun v _ I1 _ h => ?_)
      obtain ⟨rfl, h⟩ := h
      refine ⟨rfl, ?_⟩
      refine e_iconst (pc' := 52) rfl rfl kc_1 ?_
      exact e_zret rfl (Or.inr nI_one) h
    · replace h := h.1 (Decidable.not_not.mp hc)
      refine e_iconst (pc' := 33) rfl rfl kc_0 ?_
      exact e_zret rfl (Or.inl nI_0) h
  · replace h := h.1 (Decidable.not_not.mp hc)
    refine e_next (pc' := 6) rfl rfl ?_
    refine e_getR (pc' := 9) rfl rfl (hs.o rfl) (hs.a rfl) ?_
    refine e_next (pc' := 10) rfl rfl ?_
    refine e_getR (pc' := 13) rfl rfl (hs.o rfl) (hs.a rfl) ?_
    refine e_getR (pc' := 16) rfl rfl (hs.o rfl) (hs.a rfl) ?_
    refine e_next (pc' := 17) rfl rfl ?_
    obtain ⟨k2, hi_k2, hj_k2, h⟩ := h
    refine e_aaldR k2 (pc' := 18) rfl rfl (hs.k rfl) rfl hi_k2 hj_k2 (by decide) (hs.cubic hj_k2) ?_
    refine e_iconst (pc' := 19) rfl rfl kc_0 ?_
    refine e_ciV (pc' := 22) rfl (e_sV (as := [_, _]) (fun _ => rfl) (Or.inl rfl) rfl (hs.o rfl) rfl rfl (Nat.le_of_ble_eq_true rfl) (Nat.le_of_ble_eq_true rfl) rfl) rfl rfl ?_
    refine qev.mono h (fun v _ I2 _ h => ?_)
    obtain ⟨rfl, h⟩ := h
    refine ⟨rfl, ?_⟩
    refine e_iconst (pc' := 23) rfl rfl kc_1 ?_
    exact e_zret rfl (Or.inr nI_one) h
theorem w146 {d : Nat}  {g : qG} {I : qI} {J : qJ} {Q : qQ} (hs : qSh g)  (h : Q (some (.int (I 105 0))) g I J) : qC d 146 [.ref 105] g I J Q := by
  show qev d 146 (0, [.ref 105], [], g, I, J) Q
  refine e_next (pc' := 1) rfl rfl ?_
  refine e_getI (pc' := 4) rfl (Or.inl rfl) rfl (hs.o rfl) ?_
  exact e_iret rfl h
theorem w147 {d : Nat} {x1 : Int64} {x2 : Int64} {x3 : Int64} {g : qG} {I : qI} {J : qJ} {Q : qQ}  (h : (((lg_cmp x1 x2) < 0 → Q (some (.int (nI 0))) g I J) ∧ (¬ (lg_cmp x1 x2) < 0 → ((0 < (lg_cmp x1 x3) → Q (some (.int (nI 0))) g I J) ∧ (¬ 0 < (lg_cmp x1 x3) → Q (some (.int (nI 1))) g I J))))) : qC d 147 [.long x1, .long x2, .long x3] g I J Q := by
  show qev d 147 (0, [.long x1, qpad, .long x2, qpad, .long x3, qpad], [], g, I, J) Q
  refine e_next (pc' := 1) rfl rfl ?_
  refine e_next (pc' := 2) rfl rfl ?_
  refine e_next (pc' := 3) rfl rfl ?_
  refine e_if ((lg_cmp x1 x2) < 0) (pc' := 6) rfl rfl e_d (fun hc => ?_) (fun hc => ?_)
  · replace h := h.1 hc
    refine e_iconst (pc' := 18) rfl rfl kc_0 ?_
    exact e_zret rfl (Or.inl nI_0) h
  · replace h := h.2 hc
    refine e_next (pc' := 7) rfl rfl ?_
    refine e_next (pc' := 9) rfl rfl ?_
    refine e_next (pc' := 10) rfl rfl ?_
    refine e_if (0 < (lg_cmp x1 x3)) (pc' := 13) rfl rfl e_d (fun hc => ?_) (fun hc => ?_)
    · replace h := h.1 hc
      refine e_iconst (pc' := 18) rfl rfl kc_0 ?_
      exact e_zret rfl (Or.inl nI_0) h
    · replace h := h.2 hc
      refine e_iconst (pc' := 14) rfl rfl kc_1 ?_
      refine e_next (pc' := 18) rfl rfl ?_
      exact e_zret rfl (Or.inr nI_one) h
theorem w148 {d : Nat} {x1 : Int32} {x2 : Int32} {g : qG} {I : qI} {J : qJ} {Q : qQ}  (h : ((((qshr x1 x2) &&& (nI 1)) = (nI 1) → Q (some (.int (nI 1))) g I J) ∧ (¬ ((qshr x1 x2) &&& (nI 1)) = (nI 1) → Q (some (.int (nI 0))) g I J))) : qC d 148 [.int x1, .int x2] g I J Q := by
  show qev d 148 (0, [.int x1, .int x2], [], g, I, J) Q
  refine e_next (pc' := 1) rfl rfl ?_
  refine e_next (pc' := 2) rfl rfl ?_
  refine e_next (pc' := 3) rfl rfl ?_
  refine e_iconst (pc' := 4) rfl rfl kc_1 ?_
  refine e_next (pc' := 5) rfl rfl ?_
  refine e_iconst (pc' := 6) rfl rfl kc_1 ?_
  refine e_icmp (¬ ((qshr x1 x2) &&& (nI 1)) = (nI 1)) (pc' := 9) rfl rfl e_d (fun hc => ?_) (fun hc => ?_)
  · replace h := h.2 hc
    refine e_iconst (pc' := 14) rfl rfl kc_0 ?_
    exact e_zret rfl (Or.inl nI_0) h
  · replace h := h.1 (Decidable.not_not.mp hc)
    refine e_iconst (pc' := 10) rfl rfl kc_1 ?_
    refine e_next (pc' := 14) rfl rfl ?_
    exact e_zret rfl (Or.inr nI_one) h
theorem w149 {d : Nat} {x1 : Int32} {g : qG} {I : qI} {J : qJ} {Q : qQ}  (h : qev d 149 (4, [.int x1, .int (nI 0), .int (nI 0)], [], g, I, J) Q) : qC d 149 [.int x1] g I J Q := by
  show qev d 149 (0, [.int x1, qpad, qpad], [], g, I, J) Q
  refine e_iconst (pc' := 1) rfl rfl kc_0 ?_
  refine e_next (pc' := 2) (ls' := [_, _, _]) rfl rfl ?_
  refine e_iconst (pc' := 3) rfl rfl kc_0 ?_
  refine e_next (pc' := 4) (ls' := [_, _, _]) rfl rfl ?_
  exact h
theorem w149_4 {d : Nat} {i0 : Int32} {i1 : Int32} {i2 : Int32} {g : qG} {I : qI} {J : qJ} {Q : qQ}  (h : (((nI 4) ≤ i2 → Q (some (.int i1)) g I J) ∧ (¬ (nI 4) ≤ i2 → ((((qshr i0 ((nI 8) * i2)) &&& (nI 255)) = 0 → qev d 149 (4, [.int i0, .int (i1 + (nI 0)), .int (i2 + (nI 1))], [], g, I, J) Q) ∧ (¬ ((qshr i0 ((nI 8) * i2)) &&& (nI 255)) = 0 → qev d 149 (4, [.int i0, .int (i1 + (nI 1)), .int (i2 + (nI 1))], [], g, I, J) Q))))) : qev d 149 (4, [.int i0, .int i1, .int i2], [], g, I, J) Q := by
  refine e_next (pc' := 5) rfl rfl ?_
  refine e_iconst (pc' := 6) rfl rfl kc_4 ?_
  refine e_icmp ((nI 4) ≤ i2) (pc' := 9) rfl rfl e_d (fun hc => ?_) (fun hc => ?_)
  · replace h := h.1 hc
    refine e_next (pc' := 37) rfl rfl ?_
    exact e_iret rfl h
  · replace h := h.2 hc
    refine e_next (pc' := 10) rfl rfl ?_
    refine e_next (pc' := 11) rfl rfl ?_
    refine e_bipush (pc' := 13) rfl rfl kb_8 ?_
    refine e_next (pc' := 14) rfl rfl ?_
    refine e_next (pc' := 15) rfl rfl ?_
    refine e_next (pc' := 16) rfl rfl ?_
    refine e_sipush (pc' := 19) rfl rfl ks_255 ?_
    refine e_next (pc' := 20) rfl rfl ?_
    refine e_if (¬ ((qshr i0 ((nI 8) * i2)) &&& (nI 255)) = 0) (pc' := 23) rfl rfl e_d (fun hc => ?_) (fun hc => ?_)
    · replace h := h.2 hc
      refine e_iconst (pc' := 28) rfl rfl kc_1 ?_
      refine e_next (pc' := 29) rfl rfl ?_
      refine e_next (pc' := 30) (ls' := [_, _, _]) rfl rfl ?_
      refine e_iinc (pc' := 33) (ls' := [_, _, _]) (v := (nI 1)) rfl rfl kc_1 rfl rfl ?_
      refine e_next (pc' := 4) rfl rfl ?_
      exact h
    · replace h := h.1 (Decidable.not_not.mp hc)
      refine e_iconst (pc' := 24) rfl rfl kc_0 ?_
      refine e_next (pc' := 28) rfl rfl ?_
      refine e_next (pc' := 29) rfl rfl ?_
      refine e_next (pc' := 30) (ls' := [_, _, _]) rfl rfl ?_
      refine e_iinc (pc' := 33) (ls' := [_, _, _]) (v := (nI 1)) rfl rfl kc_1 rfl rfl ?_
      refine e_next (pc' := 4) rfl rfl ?_
      exact h
theorem w150 {d : Nat} {x1 : Int32} {g : qG} {I : qI} {J : qJ} {Q : qQ}  (h : qev d 150 (3, [.ref 105, .int x1, .int (nI 24), qpad], [], g, I, J) Q) : qC d 150 [.ref 105, .int x1] g I J Q := by
  show qev d 150 (0, [.ref 105, .int x1, qpad, qpad], [], g, I, J) Q
  refine e_bipush (pc' := 2) rfl rfl kb_24 ?_
  refine e_next (pc' := 3) (ls' := [_, _, _, _]) rfl rfl ?_
  exact h
theorem w150_3 {d : Nat} {i1 : Int32} {i2 : Int32} {w3 : Value} {g : qG} {I : qI} {J : qJ} {Q : qQ} (hs : qSh g)  (h : ((i2 < 0 → Q none g I J) ∧ (¬ i2 < 0 → ((((qshr i1 i2) &&& (nI 255)) = 0 → qev d 150 (3, [.ref 105, .int i1, .int (i2 + (-8)), .int ((qshr i1 i2) &&& (nI 255))], [], g, I, J) Q) ∧ (¬ ((qshr i1 i2) &&& (nI 255)) = 0 → ∃ k1, (I 105 2) = nI k1 ∧ k1 < 320 ∧ qev d 150 (3, [.ref 105, .int i1, .int (i2 + (-8)), .int ((qshr i1 i2) &&& (nI 255))], [], g, (qw (qw I 106 k1 (Int32.toInt8 (Int32.toInt8 ((qshr i1 i2) &&& (nI 255))).toInt32).toInt32) 105 2 (((qw I 106 k1 (Int32.toInt8 (Int32.toInt8 ((qshr i1 i2) &&& (nI 255))).toInt32).toInt32) 105 2) + (nI 1))), J) Q))))) : qev d 150 (3, [.ref 105, .int i1, .int i2, w3], [], g, I, J) Q := by
  refine e_next (pc' := 4) rfl rfl ?_
  refine e_if (i2 < 0) (pc' := 7) rfl rfl e_d (fun hc => ?_) (fun hc => ?_)
  · replace h := h.1 hc
    exact qev_ret rfl rfl h
  · replace h := h.2 hc
    refine e_next (pc' := 8) rfl rfl ?_
    refine e_next (pc' := 9) rfl rfl ?_
    refine e_next (pc' := 10) rfl rfl ?_
    refine e_sipush (pc' := 13) rfl rfl ks_255 ?_
    refine e_next (pc' := 14) rfl rfl ?_
    refine e_next (pc' := 15) (ls' := [_, _, _, _]) rfl rfl ?_
    refine e_next (pc' := 16) rfl rfl ?_
    refine e_if (¬ ((qshr i1 i2) &&& (nI 255)) = 0) (pc' := 19) rfl rfl e_d (fun hc => ?_) (fun hc => ?_)
    · replace h := h.2 hc
      refine e_next (pc' := 23) rfl rfl ?_
      refine e_getR (pc' := 26) rfl rfl (hs.o rfl) (hs.a rfl) ?_
      refine e_next (pc' := 27) rfl rfl ?_
      refine e_getI (pc' := 30) rfl (Or.inl rfl) rfl (hs.o rfl) ?_
      refine e_next (pc' := 31) rfl rfl ?_
      refine e_next (pc' := 32) rfl rfl ?_
      obtain ⟨k1, hi_k1, hj_k1, h⟩ := h
      refine e_bast k1 (pc' := 33) rfl rfl (hs.k rfl) hi_k1 hj_k1 (by decide) ?_
      refine e_next (pc' := 34) rfl rfl ?_
      refine e_next (pc' := 35) rfl rfl ?_
      refine e_getI (pc' := 38) rfl (Or.inl rfl) rfl (hs.o rfl) ?_
      refine e_iconst (pc' := 39) rfl rfl kc_1 ?_
      refine e_next (pc' := 40) rfl rfl ?_
      refine e_putI (pc' := 43) rfl rfl (hs.o rfl) ?_
      refine e_iinc (pc' := 46) (ls' := [_, _, _, _]) (v := (-8)) rfl rfl kc_m8 rfl rfl ?_
      refine e_next (pc' := 3) rfl rfl ?_
      exact h
    · replace h := h.1 (Decidable.not_not.mp hc)
      refine e_next (pc' := 43) rfl rfl ?_
      refine e_iinc (pc' := 46) (ls' := [_, _, _, _]) (v := (-8)) rfl rfl kc_m8 rfl rfl ?_
      refine e_next (pc' := 3) rfl rfl ?_
      exact h
theorem w151 {d : Nat} {x1 : Int32} {x2 : Int32} {x3 : Int32} {x4 : Int32} {x5 : Int32} {g : qG} {I : qI} {J : qJ} {Q : qQ} (hs : qSh g)  (h : qC d 149 [.int x1] g (qw I 105 0 (nI 0)) J (fun v _ _ _ => ∃ r1, v = some (.int r1) ∧ qC d 149 [.int x2] g (qw I 105 0 (nI 0)) J (fun v _ _ _ => ∃ r2, v = some (.int r2) ∧ qC d 149 [.int x3] g (qw I 105 0 (nI 0)) J (fun v _ _ _ => ∃ r3, v = some (.int r3) ∧ qC d 149 [.int x4] g (qw I 105 0 (nI 0)) J (fun v _ _ _ => ∃ r4, v = some (.int r4) ∧ qC d 149 [.int x5] g (qw I 105 0 (nI 0)) J (fun v _ _ _ => ∃ r5, v = some (.int r5) ∧ (((((((((qw I 105 0 (nI 0)) 105 2) + r1) + r2) + r3) + r4) + r5) ≤ (nI 320) → qC d 150 [.ref 105, .int x1] g (qw I 105 0 (nI 0)) J (fun v _ I1 _ => v = none ∧ qC d 150 [.ref 105, .int x2] g I1 J (fun v _ I2 _ => v = none ∧ qC d 150 [.ref 105, .int x3] g I2 J (fun v _ I3 _ => v = none ∧ qC d 150 [.ref 105, .int x4] g I3 J (fun v _ I4 _ => v = none ∧ qC d 150 [.ref 105, .int x5] g I4 J (fun v _ I5 _ => v = none ∧ Q (some (.int (I5 105 2))) g I5 J)))))) ∧ (¬ (((((((qw I 105 0 (nI 0)) 105 2) + r1) + r2) + r3) + r4) + r5) ≤ (nI 320) → Q (some (.int (-1))) g (qw I 105 0 (nI 0)) J)))))))) : qC (d + 1) 151 [.ref 105, .int x1, .int x2, .int x3, .int x4, .int x5] g I J Q := by
  show qev (d + 1) 151 (0, [.ref 105, .int x1, .int x2, .int x3, .int x4, .int x5], [], g, I, J) Q
  refine e_next (pc' := 1) rfl rfl ?_
  refine e_iconst (pc' := 2) rfl rfl kc_0 ?_
  refine e_putI (pc' := 5) rfl rfl (hs.o rfl) ?_
  refine e_next (pc' := 6) rfl rfl ?_
  refine e_getI (pc' := 9) rfl (Or.inl rfl) rfl (hs.o rfl) ?_
  refine e_next (pc' := 10) rfl rfl ?_
  refine e_cpI (pc' := 13) rfl (e_sS (as := [_]) (fun _ => rfl) rfl (Nat.le_of_ble_eq_true rfl) rfl rfl (Nat.le_of_ble_eq_true rfl) (Nat.le_of_ble_eq_true rfl) rfl) rfl rfl rfl ?_
  refine qev.mono h (fun v _ _ _ h => ?_)
  obtain ⟨r1, rfl, h⟩ := h
  refine ⟨r1, rfl, ?_⟩
  refine e_next (pc' := 14) rfl rfl ?_
  refine e_next (pc' := 15) rfl rfl ?_
  refine e_cpI (pc' := 18) rfl (e_sS (as := [_]) (fun _ => rfl) rfl (Nat.le_of_ble_eq_true rfl) rfl rfl (Nat.le_of_ble_eq_true rfl) (Nat.le_of_ble_eq_true rfl) rfl) rfl rfl rfl ?_
  refine qev.mono h (fun v _ _ _ h => ?_)
  obtain ⟨r2, rfl, h⟩ := h
  refine ⟨r2, rfl, ?_⟩
  refine e_next (pc' := 19) rfl rfl ?_
  refine e_next (pc' := 20) rfl rfl ?_
  refine e_cpI (pc' := 23) rfl (e_sS (as := [_]) (fun _ => rfl) rfl (Nat.le_of_ble_eq_true rfl) rfl rfl (Nat.le_of_ble_eq_true rfl) (Nat.le_of_ble_eq_true rfl) rfl) rfl rfl rfl ?_
  refine qev.mono h (fun v _ _ _ h => ?_)
  obtain ⟨r3, rfl, h⟩ := h
  refine ⟨r3, rfl, ?_⟩
  refine e_next (pc' := 24) rfl rfl ?_
  refine e_next (pc' := 26) rfl rfl ?_
  refine e_cpI (pc' := 29) rfl (e_sS (as := [_]) (fun _ => rfl) rfl (Nat.le_of_ble_eq_true rfl) rfl rfl (Nat.le_of_ble_eq_true rfl) (Nat.le_of_ble_eq_true rfl) rfl) rfl rfl rfl ?_
  refine qev.mono h (fun v _ _ _ h => ?_)
  obtain ⟨r4, rfl, h⟩ := h
  refine ⟨r4, rfl, ?_⟩
  refine e_next (pc' := 30) rfl rfl ?_
  refine e_next (pc' := 32) rfl rfl ?_
  refine e_cpI (pc' := 35) rfl (e_sS (as := [_]) (fun _ => rfl) rfl (Nat.le_of_ble_eq_true rfl) rfl rfl (Nat.le_of_ble_eq_true rfl) (Nat.le_of_ble_eq_true rfl) rfl) rfl rfl rfl ?_
  refine qev.mono h (fun v _ _ _ h => ?_)
  obtain ⟨r5, rfl, h⟩ := h
  refine ⟨r5, rfl, ?_⟩
  refine e_next (pc' := 36) rfl rfl ?_
  refine e_sipush (pc' := 39) rfl rfl ks_320 ?_
  refine e_icmp ((((((((qw I 105 0 (nI 0)) 105 2) + r1) + r2) + r3) + r4) + r5) ≤ (nI 320)) (pc' := 42) rfl rfl e_d (fun hc => ?_) (fun hc => ?_)
  · replace h := h.1 hc
    refine e_next (pc' := 45) rfl rfl ?_
    refine e_next (pc' := 46) rfl rfl ?_
    refine e_ciV (pc' := 49) rfl (e_sV (as := [_]) (fun _ => rfl) (Or.inl rfl) rfl (hs.o rfl) rfl rfl (Nat.le_of_ble_eq_true rfl) (Nat.le_of_ble_eq_true rfl) rfl) rfl rfl ?_
    refine qev.mono h (fun v _ I1 _ h => ?_)
    obtain ⟨rfl, h⟩ := h
    refine ⟨rfl, ?_⟩
    refine e_next (pc' := 50) rfl rfl ?_
    refine e_next (pc' := 51) rfl rfl ?_
    refine e_ciV (pc' := 54) rfl (e_sV (as := [_]) (fun _ => rfl) (Or.inl rfl) rfl (hs.o rfl) rfl rfl (Nat.le_of_ble_eq_true rfl) (Nat.le_of_ble_eq_true rfl) rfl) rfl rfl ?_
    refine qev.mono h (fun v _ I2 _ h => ?_)
    obtain ⟨rfl, h⟩ := h
    refine ⟨rfl, ?_⟩
    refine e_next (pc' := 55) rfl rfl ?_
    refine e_next (pc' := 56) rfl rfl ?_
    refine e_ciV (pc' := 59) rfl (e_sV (as := [_]) (fun _ => rfl) (Or.inl rfl) rfl (hs.o rfl) rfl rfl (Nat.le_of_ble_eq_true rfl) (Nat.le_of_ble_eq_true rfl) rfl) rfl rfl ?_
    refine qev.mono h (fun v _ I3 _ h => ?_)
    obtain ⟨rfl, h⟩ := h
    refine ⟨rfl, ?_⟩
    refine e_next (pc' := 60) rfl rfl ?_
    refine e_next (pc' := 62) rfl rfl ?_
    refine e_ciV (pc' := 65) rfl (e_sV (as := [_]) (fun _ => rfl) (Or.inl rfl) rfl (hs.o rfl) rfl rfl (Nat.le_of_ble_eq_true rfl) (Nat.le_of_ble_eq_true rfl) rfl) rfl rfl ?_
    refine qev.mono h (fun v _ I4 _ h => ?_)
    obtain ⟨rfl, h⟩ := h
    refine ⟨rfl, ?_⟩
    refine e_next (pc' := 66) rfl rfl ?_
    refine e_next (pc' := 68) rfl rfl ?_
    refine e_ciV (pc' := 71) rfl (e_sV (as := [_]) (fun _ => rfl) (Or.inl rfl) rfl (hs.o rfl) rfl rfl (Nat.le_of_ble_eq_true rfl) (Nat.le_of_ble_eq_true rfl) rfl) rfl rfl ?_
    refine qev.mono h (fun v _ I5 _ h => ?_)
    obtain ⟨rfl, h⟩ := h
    refine ⟨rfl, ?_⟩
    refine e_next (pc' := 72) rfl rfl ?_
    refine e_getI (pc' := 75) rfl (Or.inl rfl) rfl (hs.o rfl) ?_
    exact e_iret rfl h
  · replace h := h.2 hc
    refine e_iconst (pc' := 43) rfl rfl kc_m1 ?_
    exact e_iret rfl h
theorem w152 {d : Nat} {x1 : Int32} {g : qG} {I : qI} {J : qJ} {Q : qQ} (hs : qSh g)  (h : ((x1 < 0 → Q (some (.int (nI 0))) g (qw I 105 0 (nI 0)) J) ∧ (¬ x1 < 0 → ((x1 ≤ ((qw I 105 0 (nI 0)) 105 2) → Q (some (.int (nI 1))) g (qw (qw I 105 0 (nI 0)) 105 2 x1) J) ∧ (¬ x1 ≤ ((qw I 105 0 (nI 0)) 105 2) → Q (some (.int (nI 0))) g (qw I 105 0 (nI 0)) J))))) : qC d 152 [.ref 105, .int x1] g I J Q := by
  show qev d 152 (0, [.ref 105, .int x1], [], g, I, J) Q
  refine e_next (pc' := 1) rfl rfl ?_
  refine e_iconst (pc' := 2) rfl rfl kc_0 ?_
  refine e_putI (pc' := 5) rfl rfl (hs.o rfl) ?_
  refine e_next (pc' := 6) rfl rfl ?_
  refine e_if (x1 < 0) (pc' := 9) rfl rfl e_d (fun hc => ?_) (fun hc => ?_)
  · replace h := h.1 hc
    refine e_iconst (pc' := 18) rfl rfl kc_0 ?_
    exact e_zret rfl (Or.inl nI_0) h
  · replace h := h.2 hc
    refine e_next (pc' := 10) rfl rfl ?_
    refine e_next (pc' := 11) rfl rfl ?_
    refine e_getI (pc' := 14) rfl (Or.inl rfl) rfl (hs.o rfl) ?_
    refine e_icmp (x1 ≤ ((qw I 105 0 (nI 0)) 105 2)) (pc' := 17) rfl rfl e_d (fun hc => ?_) (fun hc => ?_)
    · replace h := h.1 hc
      refine e_next (pc' := 20) rfl rfl ?_
      refine e_next (pc' := 21) rfl rfl ?_
      refine e_putI (pc' := 24) rfl rfl (hs.o rfl) ?_
      refine e_iconst (pc' := 25) rfl rfl kc_1 ?_
      exact e_zret rfl (Or.inr nI_one) h
    · replace h := h.2 hc
      refine e_iconst (pc' := 18) rfl rfl kc_0 ?_
      exact e_zret rfl (Or.inl nI_0) h
theorem w153 {d : Nat}  {g : qG} {I : qI} {J : qJ} {Q : qQ} (hs : qSh g)  (h : (((I 105 2) ≤ (I 105 3) → Q (some (.int (-1))) g I J) ∧ (¬ (I 105 2) ≤ (I 105 3) → ∃ k1, (I 105 3) = nI k1 ∧ k1 < 320 ∧ Q (some (.int ((I 106 k1) &&& (nI 255)))) g I J))) : qC d 153 [.ref 105] g I J Q := by
  show qev d 153 (0, [.ref 105], [], g, I, J) Q
  refine e_next (pc' := 1) rfl rfl ?_
  refine e_getI (pc' := 4) rfl (Or.inl rfl) rfl (hs.o rfl) ?_
  refine e_next (pc' := 5) rfl rfl ?_
  refine e_getI (pc' := 8) rfl (Or.inl rfl) rfl (hs.o rfl) ?_
  refine e_icmp ((I 105 2) ≤ (I 105 3)) (pc' := 11) rfl rfl e_d (fun hc => ?_) (fun hc => ?_)
  · replace h := h.1 hc
    refine e_iconst (pc' := 28) rfl rfl kc_m1 ?_
    exact e_iret rfl h
  · replace h := h.2 hc
    refine e_next (pc' := 12) rfl rfl ?_
    refine e_getR (pc' := 15) rfl rfl (hs.o rfl) (hs.a rfl) ?_
    refine e_next (pc' := 16) rfl rfl ?_
    refine e_getI (pc' := 19) rfl (Or.inl rfl) rfl (hs.o rfl) ?_
    obtain ⟨k1, hi_k1, hj_k1, h⟩ := h
    refine e_bald k1 (pc' := 20) rfl rfl (hs.k rfl) hi_k1 hj_k1 (by decide) ?_
    refine e_sipush (pc' := 23) rfl rfl ks_255 ?_
    refine e_next (pc' := 24) rfl rfl ?_
    refine e_next (pc' := 28) rfl rfl ?_
    exact e_iret rfl h
theorem w154 {d : Nat}  {g : qG} {I : qI} {J : qJ} {Q : qQ} (hs : qSh g)  (h : qC d 153 [.ref 105] g I J (fun v _ _ _ => ∃ r1, v = some (.int r1) ∧ ((r1 = (nI 32) → qev (d + 1) 154 (0, [.ref 105], [], g, (qw I 105 3 ((I 105 3) + (nI 1))), J) Q) ∧ (¬ r1 = (nI 32) → qC d 153 [.ref 105] g I J (fun v _ _ _ => ∃ r2, v = some (.int r2) ∧ Q (some (.int r2)) g I J))))) : qC (d + 1) 154 [.ref 105] g I J Q := by
  show qev (d + 1) 154 (0, [.ref 105], [], g, I, J) Q
  refine e_next (pc' := 1) rfl rfl ?_
  refine e_cpI (pc' := 4) rfl (e_sV (as := []) (fun _ => rfl) (Or.inl rfl) rfl (hs.o rfl) rfl rfl (Nat.le_of_ble_eq_true rfl) (Nat.le_of_ble_eq_true rfl) rfl) rfl rfl rfl ?_
  refine qev.mono h (fun v _ _ _ h => ?_)
  obtain ⟨r1, rfl, h⟩ := h
  refine ⟨r1, rfl, ?_⟩
  refine e_bipush (pc' := 6) rfl rfl kb_32 ?_
  refine e_icmp (¬ r1 = (nI 32)) (pc' := 9) rfl rfl e_d (fun hc => ?_) (fun hc => ?_)
  · replace h := h.2 hc
    refine e_next (pc' := 23) rfl rfl ?_
    refine e_cpI (pc' := 26) rfl (e_sV (as := []) (fun _ => rfl) (Or.inl rfl) rfl (hs.o rfl) rfl rfl (Nat.le_of_ble_eq_true rfl) (Nat.le_of_ble_eq_true rfl) rfl) rfl rfl rfl ?_
    refine qev.mono h (fun v _ _ _ h => ?_)
    obtain ⟨r2, rfl, h⟩ := h
    refine ⟨r2, rfl, ?_⟩
    exact e_iret rfl h
  · replace h := h.1 (Decidable.not_not.mp hc)
    refine e_next (pc' := 10) rfl rfl ?_
    refine e_next (pc' := 11) rfl rfl ?_
    refine e_getI (pc' := 14) rfl (Or.inl rfl) rfl (hs.o rfl) ?_
    refine e_iconst (pc' := 15) rfl rfl kc_1 ?_
    refine e_next (pc' := 16) rfl rfl ?_
    refine e_putI (pc' := 19) rfl rfl (hs.o rfl) ?_
    refine e_next (pc' := 0) rfl rfl ?_
    exact h
theorem w155 {d : Nat}  {g : qG} {I : qI} {J : qJ} {Q : qQ} (hs : qSh g)  (h : (((I 105 4) = (-1) → Q none g (qw I 105 4 (I 105 3)) J) ∧ (¬ (I 105 4) = (-1) → Q none g I J))) : qC d 155 [.ref 105] g I J Q := by
  show qev d 155 (0, [.ref 105], [], g, I, J) Q
  refine e_next (pc' := 1) rfl rfl ?_
  refine e_getI (pc' := 4) rfl (Or.inl rfl) rfl (hs.o rfl) ?_
  refine e_iconst (pc' := 5) rfl rfl kc_m1 ?_
  refine e_icmp (¬ (I 105 4) = (-1)) (pc' := 8) rfl rfl e_d (fun hc => ?_) (fun hc => ?_)
  · replace h := h.2 hc
    exact qev_ret rfl rfl h
  · replace h := h.1 (Decidable.not_not.mp hc)
    refine e_next (pc' := 9) rfl rfl ?_
    refine e_next (pc' := 10) rfl rfl ?_
    refine e_getI (pc' := 13) rfl (Or.inl rfl) rfl (hs.o rfl) ?_
    refine e_putI (pc' := 16) rfl rfl (hs.o rfl) ?_
    exact qev_ret rfl rfl h
theorem w156 {d : Nat}  {g : qG} {I : qI} {J : qJ} {Q : qQ} (hs : qSh g)  (h : qC d 153 [.ref 105] g I J (fun v _ _ _ => ∃ r1, v = some (.int r1) ∧ ((r1 < (nI 48) → Q (some (.int (nI 0))) g I J) ∧ (¬ r1 < (nI 48) → qC d 153 [.ref 105] g I J (fun v _ _ _ => ∃ r2, v = some (.int r2) ∧ (((nI 57) < r2 → Q (some (.int (nI 0))) g I J) ∧ (¬ (nI 57) < r2 → Q (some (.int (nI 1))) g I J))))))) : qC (d + 1) 156 [.ref 105] g I J Q := by
  show qev (d + 1) 156 (0, [.ref 105], [], g, I, J) Q
  refine e_next (pc' := 1) rfl rfl ?_
  refine e_cpI (pc' := 4) rfl (e_sV (as := []) (fun _ => rfl) (Or.inl rfl) rfl (hs.o rfl) rfl rfl (Nat.le_of_ble_eq_true rfl) (Nat.le_of_ble_eq_true rfl) rfl) rfl rfl rfl ?_
  refine qev.mono h (fun v _ _ _ h => ?_)
  obtain ⟨r1, rfl, h⟩ := h
  refine ⟨r1, rfl, ?_⟩
  refine e_bipush (pc' := 6) rfl rfl kb_48 ?_
  refine e_icmp (r1 < (nI 48)) (pc' := 9) rfl rfl e_d (fun hc => ?_) (fun hc => ?_)
  · replace h := h.1 hc
    refine e_iconst (pc' := 23) rfl rfl kc_0 ?_
    exact e_zret rfl (Or.inl nI_0) h
  · replace h := h.2 hc
    refine e_next (pc' := 10) rfl rfl ?_
    refine e_cpI (pc' := 13) rfl (e_sV (as := []) (fun _ => rfl) (Or.inl rfl) rfl (hs.o rfl) rfl rfl (Nat.le_of_ble_eq_true rfl) (Nat.le_of_ble_eq_true rfl) rfl) rfl rfl rfl ?_
    refine qev.mono h (fun v _ _ _ h => ?_)
    obtain ⟨r2, rfl, h⟩ := h
    refine ⟨r2, rfl, ?_⟩
    refine e_bipush (pc' := 15) rfl rfl kb_57 ?_
    refine e_icmp ((nI 57) < r2) (pc' := 18) rfl rfl e_d (fun hc => ?_) (fun hc => ?_)
    · replace h := h.1 hc
      refine e_iconst (pc' := 23) rfl rfl kc_0 ?_
      exact e_zret rfl (Or.inl nI_0) h
    · replace h := h.2 hc
      refine e_iconst (pc' := 19) rfl rfl kc_1 ?_
      refine e_next (pc' := 23) rfl rfl ?_
      exact e_zret rfl (Or.inr nI_one) h
theorem w157 {d : Nat} {x1 : Nat} {x2 : Int32} {g : qG} {I : qI} {J : qJ} {Q : qQ}  (h : qev d 157 (2, [.ref x1, .int x2, .int (nI 0)], [], g, I, J) Q) : qC d 157 [.ref x1, .int x2] g I J Q := by
  show qev d 157 (0, [.ref x1, .int x2, qpad], [], g, I, J) Q
  refine e_iconst (pc' := 1) rfl rfl kc_0 ?_
  refine e_next (pc' := 2) (ls' := [_, _, _]) rfl rfl ?_
  exact h
theorem w157_2 {d : Nat} {x1 : Nat} {i1 : Int32} {i2 : Int32} {g : qG} {I : qI} {J : qJ} {Q : qQ}  (h : ∃ l1, 1 ≤ x1 ∧ x1 ≤ 3 ∧ (qstr x1).length = l1 ∧ (((nI l1) ≤ i2 → Q (some (.int (-1))) g I J) ∧ (¬ (nI l1) ≤ i2 → ∃ k1, 1 ≤ x1 ∧ x1 ≤ 3 ∧ i2 = nI k1 ∧ k1 < (qstr x1).length ∧ (((nI ((qstr x1).getD k1 0)) = i1 → Q (some (.int i2)) g I J) ∧ (¬ (nI ((qstr x1).getD k1 0)) = i1 → qev d 157 (2, [.ref x1, .int i1, .int (i2 + (nI 1))], [], g, I, J) Q))))) : qev d 157 (2, [.ref x1, .int i1, .int i2], [], g, I, J) Q := by
  refine e_next (pc' := 3) rfl rfl ?_
  refine e_next (pc' := 4) rfl rfl ?_
  obtain ⟨l1, h1_l1, h3_l1, hl_l1, h⟩ := h
  refine e_slen (pc' := 7) rfl rfl h1_l1 h3_l1 hl_l1 (Nat.le_of_ble_eq_true rfl) ?_
  refine e_icmp ((nI l1) ≤ i2) (pc' := 10) rfl rfl e_d (fun hc => ?_) (fun hc => ?_)
  · replace h := h.1 hc
    refine e_iconst (pc' := 28) rfl rfl kc_m1 ?_
    exact e_iret rfl h
  · replace h := h.2 hc
    refine e_next (pc' := 11) rfl rfl ?_
    refine e_next (pc' := 12) rfl rfl ?_
    obtain ⟨k1, h1_k1, h3_k1, hi_k1, hj_k1, h⟩ := h
    refine e_sch k1 (pc' := 15) rfl rfl h1_k1 h3_k1 hi_k1 hj_k1 (Nat.le_of_ble_eq_true rfl) ?_
    refine e_next (pc' := 16) rfl rfl ?_
    refine e_icmp (¬ (nI ((qstr x1).getD k1 0)) = i1) (pc' := 19) rfl rfl e_d (fun hc => ?_) (fun hc => ?_)
    · replace h := h.2 hc
      refine e_iinc (pc' := 24) (ls' := [_, _, _]) (v := (nI 1)) rfl rfl kc_1 rfl rfl ?_
      refine e_next (pc' := 2) rfl rfl ?_
      exact h
    · replace h := h.1 (Decidable.not_not.mp hc)
      refine e_next (pc' := 20) rfl rfl ?_
      exact e_iret rfl h
theorem w158 {d : Nat} {x1 : Int32} {g : qG} {I : qI} {J : qJ} {Q : qQ}  (h : qev d 158 (2, [.int x1, .int (nI 2)], [], g, I, J) Q) : qC d 158 [.int x1] g I J Q := by
  show qev d 158 (0, [.int x1, qpad], [], g, I, J) Q
  refine e_iconst (pc' := 1) rfl rfl kc_2 ?_
  refine e_next (pc' := 2) (ls' := [_, _]) rfl rfl ?_
  exact h
theorem w158_2 {d : Nat} {i0 : Int32} {i1 : Int32} {g : qG} {I : qI} {J : qJ} {Q : qQ}  (h : ((i0 < (i1 * i1) → ((i0 ≤ (nI 1) → Q (some (.int (nI 0))) g I J) ∧ (¬ i0 ≤ (nI 1) → Q (some (.int (nI 1))) g I J))) ∧ (¬ i0 < (i1 * i1) → ¬ i1 = 0 ∧ (((qrem i0 i1) = 0 → Q (some (.int (nI 0))) g I J) ∧ (¬ (qrem i0 i1) = 0 → qev d 158 (2, [.int i0, .int (i1 + (nI 1))], [], g, I, J) Q))))) : qev d 158 (2, [.int i0, .int i1], [], g, I, J) Q := by
  refine e_next (pc' := 3) rfl rfl ?_
  refine e_next (pc' := 4) rfl rfl ?_
  refine e_next (pc' := 5) rfl rfl ?_
  refine e_next (pc' := 6) rfl rfl ?_
  refine e_icmp (i0 < (i1 * i1)) (pc' := 9) rfl rfl e_d (fun hc => ?_) (fun hc => ?_)
  · replace h := h.1 hc
    refine e_next (pc' := 24) rfl rfl ?_
    refine e_iconst (pc' := 25) rfl rfl kc_1 ?_
    refine e_icmp (i0 ≤ (nI 1)) (pc' := 28) rfl rfl e_d (fun hc => ?_) (fun hc => ?_)
    · replace h := h.1 hc
      refine e_iconst (pc' := 33) rfl rfl kc_0 ?_
      exact e_zret rfl (Or.inl nI_0) h
    · replace h := h.2 hc
      refine e_iconst (pc' := 29) rfl rfl kc_1 ?_
      refine e_next (pc' := 33) rfl rfl ?_
      exact e_zret rfl (Or.inr nI_one) h
  · replace h := h.2 hc
    refine e_next (pc' := 10) rfl rfl ?_
    refine e_next (pc' := 11) rfl rfl ?_
    obtain ⟨hz1, h⟩ := h
    refine e_irem (pc' := 12) rfl rfl hz1 ?_
    refine e_if (¬ (qrem i0 i1) = 0) (pc' := 15) rfl rfl e_d (fun hc => ?_) (fun hc => ?_)
    · replace h := h.2 hc
      refine e_iinc (pc' := 20) (ls' := [_, _]) (v := (nI 1)) rfl rfl kc_1 rfl rfl ?_
      refine e_next (pc' := 2) rfl rfl ?_
      exact h
    · replace h := h.1 (Decidable.not_not.mp hc)
      refine e_iconst (pc' := 16) rfl rfl kc_0 ?_
      exact e_zret rfl (Or.inl nI_0) h
theorem w159 {d : Nat} {x1 : Int32} {x2 : Int32} {x3 : Int32} {g : qG} {I : qI} {J : qJ} {Q : qQ} (hs : qSh g)  (h : qC d 154 [.ref 105] g I J (fun v _ I1 _ => ∃ r1, v = some (.int r1) ∧ qC d 156 [.ref 105] g I1 J (fun v _ _ _ => ∃ r2, v = some (.int r2) ∧ ((r2 = 0 → qC d 155 [.ref 105] g I1 J (fun v _ I2 _ => v = none ∧ Q (some (.int x1)) g I2 J)) ∧ (¬ r2 = 0 → qev (d + 1) 159 (25, [.ref 105, .int x1, .int x2, .int x3, .int r1, .int (nI 0), .int (nI 0)], [], g, I1, J) Q))))) : qC (d + 1) 159 [.ref 105, .int x1, .int x2, .int x3] g I J Q := by
  show qev (d + 1) 159 (0, [.ref 105, .int x1, .int x2, .int x3, qpad, qpad, qpad], [], g, I, J) Q
  refine e_next (pc' := 1) rfl rfl ?_
  refine e_ciI (pc' := 4) rfl (e_sV (as := []) (fun _ => rfl) (Or.inl rfl) rfl (hs.o rfl) rfl rfl (Nat.le_of_ble_eq_true rfl) (Nat.le_of_ble_eq_true rfl) rfl) rfl rfl ?_
  refine qev.mono h (fun v _ I1 _ h => ?_)
  obtain ⟨r1, rfl, h⟩ := h
  refine ⟨r1, rfl, ?_⟩
  refine e_next (pc' := 6) (ls' := [_, _, _, _, _, _, _]) rfl rfl ?_
  refine e_next (pc' := 7) rfl rfl ?_
  refine e_cpI (pc' := 10) rfl (e_sV (as := []) (fun _ => rfl) (Or.inl rfl) rfl (hs.o rfl) rfl rfl (Nat.le_of_ble_eq_true rfl) (Nat.le_of_ble_eq_true rfl) rfl) rfl rfl rfl ?_
  refine qev.mono h (fun v _ _ _ h => ?_)
  obtain ⟨r2, rfl, h⟩ := h
  refine ⟨r2, rfl, ?_⟩
  refine e_if (¬ r2 = 0) (pc' := 13) rfl rfl e_d (fun hc => ?_) (fun hc => ?_)
  · replace h := h.2 hc
    refine e_iconst (pc' := 20) rfl rfl kc_0 ?_
    refine e_next (pc' := 22) (ls' := [_, _, _, _, _, _, _]) rfl rfl ?_
    refine e_iconst (pc' := 23) rfl rfl kc_0 ?_
    refine e_next (pc' := 25) (ls' := [_, _, _, _, _, _, _]) rfl rfl ?_
    exact h
  · replace h := h.1 (Decidable.not_not.mp hc)
    refine e_next (pc' := 14) rfl rfl ?_
    refine e_ciV (pc' := 17) rfl (e_sV (as := []) (fun _ => rfl) (Or.inl rfl) rfl (hs.o rfl) rfl rfl (Nat.le_of_ble_eq_true rfl) (Nat.le_of_ble_eq_true rfl) rfl) rfl rfl ?_
    refine qev.mono h (fun v _ I2 _ h => ?_)
    obtain ⟨rfl, h⟩ := h
    refine ⟨rfl, ?_⟩
    refine e_next (pc' := 18) rfl rfl ?_
    exact e_iret rfl h
theorem w159_25 {d : Nat} {i1 : Int32} {i2 : Int32} {i3 : Int32} {i4 : Int32} {i5 : Int32} {i6 : Int32} {g : qG} {I : qI} {J : qJ} {Q : qQ} (hs : qSh g)  (h : (((nI 3) ≤ i6 → qev (d + 1) 159 (69, [.ref 105, .int i1, .int i2, .int i3, .int i4, .int i5, .int i6], [], g, I, J) Q) ∧ (¬ (nI 3) ≤ i6 → qC d 156 [.ref 105] g I J (fun v _ _ _ => ∃ r1, v = some (.int r1) ∧ ((r1 = 0 → qev (d + 1) 159 (69, [.ref 105, .int i1, .int i2, .int i3, .int i4, .int i5, .int i6], [], g, I, J) Q) ∧ (¬ r1 = 0 → qC d 153 [.ref 105] g I J (fun v _ _ _ => ∃ r2, v = some (.int r2) ∧ qev (d + 1) 159 (25, [.ref 105, .int i1, .int i2, .int i3, .int i4, .int ((((nI 10) * i5) + r2) - (nI 48)), .int (i6 + (nI 1))], [], g, (qw I 105 3 ((I 105 3) + (nI 1))), J) Q))))))) : qev (d + 1) 159 (25, [.ref 105, .int i1, .int i2, .int i3, .int i4, .int i5, .int i6], [], g, I, J) Q := by
  refine e_next (pc' := 27) rfl rfl ?_
  refine e_iconst (pc' := 28) rfl rfl kc_3 ?_
  refine e_icmp ((nI 3) ≤ i6) (pc' := 31) rfl rfl e_d (fun hc => ?_) (fun hc => ?_)
  · replace h := h.1 hc
    exact h
  · replace h := h.2 hc
    refine e_next (pc' := 32) rfl rfl ?_
    refine e_cpI (pc' := 35) rfl (e_sV (as := []) (fun _ => rfl) (Or.inl rfl) rfl (hs.o rfl) rfl rfl (Nat.le_of_ble_eq_true rfl) (Nat.le_of_ble_eq_true rfl) rfl) rfl rfl rfl ?_
    refine qev.mono h (fun v _ _ _ h => ?_)
    obtain ⟨r1, rfl, h⟩ := h
    refine ⟨r1, rfl, ?_⟩
    refine e_if (r1 = 0) (pc' := 38) rfl rfl e_d (fun hc => ?_) (fun hc => ?_)
    · replace h := h.1 hc
      exact h
    · replace h := h.2 hc
      refine e_bipush (pc' := 40) rfl rfl kb_10 ?_
      refine e_next (pc' := 42) rfl rfl ?_
      refine e_next (pc' := 43) rfl rfl ?_
      refine e_next (pc' := 44) rfl rfl ?_
      refine e_cpI (pc' := 47) rfl (e_sV (as := []) (fun _ => rfl) (Or.inl rfl) rfl (hs.o rfl) rfl rfl (Nat.le_of_ble_eq_true rfl) (Nat.le_of_ble_eq_true rfl) rfl) rfl rfl rfl ?_
      refine qev.mono h (fun v _ _ _ h => ?_)
      obtain ⟨r2, rfl, h⟩ := h
      refine ⟨r2, rfl, ?_⟩
      refine e_next (pc' := 48) rfl rfl ?_
      refine e_bipush (pc' := 50) rfl rfl kb_48 ?_
      refine e_next (pc' := 51) rfl rfl ?_
      refine e_next (pc' := 53) (ls' := [_, _, _, _, _, _, _]) rfl rfl ?_
      refine e_next (pc' := 54) rfl rfl ?_
      refine e_next (pc' := 55) rfl rfl ?_
      refine e_getI (pc' := 58) rfl (Or.inl rfl) rfl (hs.o rfl) ?_
      refine e_iconst (pc' := 59) rfl rfl kc_1 ?_
      refine e_next (pc' := 60) rfl rfl ?_
      refine e_putI (pc' := 63) rfl rfl (hs.o rfl) ?_
      refine e_iinc (pc' := 66) (ls' := [_, _, _, _, _, _, _]) (v := (nI 1)) rfl rfl kc_1 rfl rfl ?_
      refine e_next (pc' := 25) rfl rfl ?_
      exact h
theorem w159_69 {d : Nat} {i1 : Int32} {i2 : Int32} {i3 : Int32} {i4 : Int32} {i5 : Int32} {i6 : Int32} {g : qG} {I : qI} {J : qJ} {Q : qQ} (hs : qSh g)  (h : qC d 156 [.ref 105] g I J (fun v _ _ _ => ∃ r1, v = some (.int r1) ∧ ((r1 = 0 → qC d 147 [.long (Int32.toInt64 i5), .long (Int32.toInt64 i1), .long (Int32.toInt64 i2)] g I J (fun v _ _ _ => ∃ r2, v = some (.int r2) ∧ ((r2 = 0 → qC d 155 [.ref 105] g (qw I 105 3 ((I 105 3) - (nI 1))) J (fun v _ I1 _ => v = none ∧ (((I1 105 4) = (-1) → Q (some (.int i5)) g I1 J) ∧ (¬ (I1 105 4) = (-1) → Q (some (.int i1)) g I1 J)))) ∧ (¬ r2 = 0 → ((i3 = 0 → (((I 105 4) = (-1) → Q (some (.int i5)) g I J) ∧ (¬ (I 105 4) = (-1) → Q (some (.int i1)) g I J))) ∧ (¬ i3 = 0 → qC d 158 [.int i5] g I J (fun v _ _ _ => ∃ r3, v = some (.int r3) ∧ ((r3 = 0 → qC d 155 [.ref 105] g (qw I 105 3 ((I 105 3) - (nI 1))) J (fun v _ I2 _ => v = none ∧ (((I2 105 4) = (-1) → Q (some (.int i5)) g I2 J) ∧ (¬ (I2 105 4) = (-1) → Q (some (.int i1)) g I2 J)))) ∧ (¬ r3 = 0 → (((I 105 4) = (-1) → Q (some (.int i5)) g I J) ∧ (¬ (I 105 4) = (-1) → Q (some (.int i1)) g I J))))))))))) ∧ (¬ r1 = 0 → qC d 155 [.ref 105] g I J (fun v _ I3 _ => v = none ∧ (((I3 105 4) = (-1) → Q (some (.int i5)) g I3 J) ∧ (¬ (I3 105 4) = (-1) → Q (some (.int i1)) g I3 J))))))) : qev (d + 1) 159 (69, [.ref 105, .int i1, .int i2, .int i3, .int i4, .int i5, .int i6], [], g, I, J) Q := by
  refine e_next (pc' := 70) rfl rfl ?_
  refine e_cpI (pc' := 73) rfl (e_sV (as := []) (fun _ => rfl) (Or.inl rfl) rfl (hs.o rfl) rfl rfl (Nat.le_of_ble_eq_true rfl) (Nat.le_of_ble_eq_true rfl) rfl) rfl rfl rfl ?_
  refine qev.mono h (fun v _ _ _ h => ?_)
  obtain ⟨r1, rfl, h⟩ := h
  refine ⟨r1, rfl, ?_⟩
  refine e_if (r1 = 0) (pc' := 76) rfl rfl e_d (fun hc => ?_) (fun hc => ?_)
  · replace h := h.1 hc
    refine e_next (pc' := 85) rfl rfl ?_
    refine e_next (pc' := 86) rfl rfl ?_
    refine e_next (pc' := 87) rfl rfl ?_
    refine e_next (pc' := 88) rfl rfl ?_
    refine e_next (pc' := 89) rfl rfl ?_
    refine e_next (pc' := 90) rfl rfl ?_
    refine e_cpI (pc' := 93) rfl (e_sS (as := [_, _, _]) (fun _ => rfl) rfl (Nat.le_of_ble_eq_true rfl) rfl rfl (Nat.le_of_ble_eq_true rfl) (Nat.le_of_ble_eq_true rfl) rfl) rfl rfl rfl ?_
    refine qev.mono h (fun v _ _ _ h => ?_)
    obtain ⟨r2, rfl, h⟩ := h
    refine ⟨r2, rfl, ?_⟩
    refine e_if (r2 = 0) (pc' := 96) rfl rfl e_d (fun hc => ?_) (fun hc => ?_)
    · replace h := h.1 hc
      refine e_next (pc' := 109) rfl rfl ?_
      refine e_next (pc' := 110) rfl rfl ?_
      refine e_getI (pc' := 113) rfl (Or.inl rfl) rfl (hs.o rfl) ?_
      refine e_iconst (pc' := 114) rfl rfl kc_1 ?_
      refine e_next (pc' := 115) rfl rfl ?_
      refine e_putI (pc' := 118) rfl rfl (hs.o rfl) ?_
      refine e_next (pc' := 119) rfl rfl ?_
      refine e_ciV (pc' := 122) rfl (e_sV (as := []) (fun _ => rfl) (Or.inl rfl) rfl (hs.o rfl) rfl rfl (Nat.le_of_ble_eq_true rfl) (Nat.le_of_ble_eq_true rfl) rfl) rfl rfl ?_
      refine qev.mono h (fun v _ I1 _ h => ?_)
      obtain ⟨rfl, h⟩ := h
      refine ⟨rfl, ?_⟩
      refine e_next (pc' := 123) rfl rfl ?_
      refine e_getI (pc' := 126) rfl (Or.inl rfl) rfl (hs.o rfl) ?_
      refine e_iconst (pc' := 127) rfl rfl kc_m1 ?_
      refine e_icmp (¬ (I1 105 4) = (-1)) (pc' := 130) rfl rfl e_d (fun hc => ?_) (fun hc => ?_)
      · replace h := h.2 hc
        refine e_next (pc' := 136) rfl rfl ?_
        exact e_iret rfl h
      · replace h := h.1 (Decidable.not_not.mp hc)
        refine e_next (pc' := 132) rfl rfl ?_
        refine e_next (pc' := 136) rfl rfl ?_
        exact e_iret rfl h
    · replace h := h.2 hc
      refine e_next (pc' := 97) rfl rfl ?_
      refine e_if (i3 = 0) (pc' := 100) rfl rfl e_d (fun hc => ?_) (fun hc => ?_)
      · replace h := h.1 hc
        refine e_next (pc' := 123) rfl rfl ?_
        refine e_getI (pc' := 126) rfl (Or.inl rfl) rfl (hs.o rfl) ?_
        refine e_iconst (pc' := 127) rfl rfl kc_m1 ?_
        refine e_icmp (¬ (I 105 4) = (-1)) (pc' := 130) rfl rfl e_d (fun hc => ?_) (fun hc => ?_)
        · replace h := h.2 hc
          refine e_next (pc' := 136) rfl rfl ?_
          exact e_iret rfl h
        · replace h := h.1 (Decidable.not_not.mp hc)
          refine e_next (pc' := 132) rfl rfl ?_
          refine e_next (pc' := 136) rfl rfl ?_
          exact e_iret rfl h
      · replace h := h.2 hc
        refine e_next (pc' := 102) rfl rfl ?_
        refine e_cpI (pc' := 105) rfl (e_sS (as := [_]) (fun _ => rfl) rfl (Nat.le_of_ble_eq_true rfl) rfl rfl (Nat.le_of_ble_eq_true rfl) (Nat.le_of_ble_eq_true rfl) rfl) rfl rfl rfl ?_
        refine qev.mono h (fun v _ _ _ h => ?_)
        obtain ⟨r3, rfl, h⟩ := h
        refine ⟨r3, rfl, ?_⟩
        refine e_if (¬ r3 = 0) (pc' := 108) rfl rfl e_d (fun hc => ?_) (fun hc => ?_)
        · replace h := h.2 hc
          refine e_next (pc' := 123) rfl rfl ?_
          refine e_getI (pc' := 126) rfl (Or.inl rfl) rfl (hs.o rfl) ?_
          refine e_iconst (pc' := 127) rfl rfl kc_m1 ?_
          refine e_icmp (¬ (I 105 4) = (-1)) (pc' := 130) rfl rfl e_d (fun hc => ?_) (fun hc => ?_)
          · replace h := h.2 hc
            refine e_next (pc' := 136) rfl rfl ?_
            exact e_iret rfl h
          · replace h := h.1 (Decidable.not_not.mp hc)
            refine e_next (pc' := 132) rfl rfl ?_
            refine e_next (pc' := 136) rfl rfl ?_
            exact e_iret rfl h
        · replace h := h.1 (Decidable.not_not.mp hc)
          refine e_next (pc' := 109) rfl rfl ?_
          refine e_next (pc' := 110) rfl rfl ?_
          refine e_getI (pc' := 113) rfl (Or.inl rfl) rfl (hs.o rfl) ?_
          refine e_iconst (pc' := 114) rfl rfl kc_1 ?_
          refine e_next (pc' := 115) rfl rfl ?_
          refine e_putI (pc' := 118) rfl rfl (hs.o rfl) ?_
          refine e_next (pc' := 119) rfl rfl ?_
          refine e_ciV (pc' := 122) rfl (e_sV (as := []) (fun _ => rfl) (Or.inl rfl) rfl (hs.o rfl) rfl rfl (Nat.le_of_ble_eq_true rfl) (Nat.le_of_ble_eq_true rfl) rfl) rfl rfl ?_
          refine qev.mono h (fun v _ I2 _ h => ?_)
          obtain ⟨rfl, h⟩ := h
          refine ⟨rfl, ?_⟩
          refine e_next (pc' := 123) rfl rfl ?_
          refine e_getI (pc' := 126) rfl (Or.inl rfl) rfl (hs.o rfl) ?_
          refine e_iconst (pc' := 127) rfl rfl kc_m1 ?_
          refine e_icmp (¬ (I2 105 4) = (-1)) (pc' := 130) rfl rfl e_d (fun hc => ?_) (fun hc => ?_)
          · replace h := h.2 hc
            refine e_next (pc' := 136) rfl rfl ?_
            exact e_iret rfl h
          · replace h := h.1 (Decidable.not_not.mp hc)
            refine e_next (pc' := 132) rfl rfl ?_
            refine e_next (pc' := 136) rfl rfl ?_
            exact e_iret rfl h
  · replace h := h.2 hc
    refine e_next (pc' := 77) rfl rfl ?_
    refine e_ciV (pc' := 80) rfl (e_sV (as := []) (fun _ => rfl) (Or.inl rfl) rfl (hs.o rfl) rfl rfl (Nat.le_of_ble_eq_true rfl) (Nat.le_of_ble_eq_true rfl) rfl) rfl rfl ?_
    refine qev.mono h (fun v _ I3 _ h => ?_)
    obtain ⟨rfl, h⟩ := h
    refine ⟨rfl, ?_⟩
    refine e_next (pc' := 122) rfl rfl ?_
    refine e_next (pc' := 123) rfl rfl ?_
    refine e_getI (pc' := 126) rfl (Or.inl rfl) rfl (hs.o rfl) ?_
    refine e_iconst (pc' := 127) rfl rfl kc_m1 ?_
    refine e_icmp (¬ (I3 105 4) = (-1)) (pc' := 130) rfl rfl e_d (fun hc => ?_) (fun hc => ?_)
    · replace h := h.2 hc
      refine e_next (pc' := 136) rfl rfl ?_
      exact e_iret rfl h
    · replace h := h.1 (Decidable.not_not.mp hc)
      refine e_next (pc' := 132) rfl rfl ?_
      refine e_next (pc' := 136) rfl rfl ?_
      exact e_iret rfl h
