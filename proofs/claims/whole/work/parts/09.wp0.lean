theorem w1 {d : Nat} {x1 : Int32} {x2 : Int32} {g : qG} {I : qI} {J : qJ} {Q : qQ} (hs : qSh g)  (h : ((x1 < (nI 2) → Q none g I J) ∧ (¬ x1 < (nI 2) → ((x2 < (nI 2) → Q none g I J) ∧ (¬ x2 < (nI 2) → (((nI 24) < x2 → Q none g I J) ∧ (¬ (nI 24) < x2 → Q none g (qw (qw I 12 7 x1) 12 8 x2) J))))))) : qC d 1 [.ref 12, .int x1, .int x2] g I J Q := by
  show qev d 1 (0, [.ref 12, .int x1, .int x2], [], g, I, J) Q
  refine e_next (pc' := 1) rfl rfl ?_
  refine e_iconst (pc' := 2) rfl rfl kc_2 ?_
  refine e_icmp (x1 < (nI 2)) (pc' := 5) rfl rfl e_d (fun hc => ?_) (fun hc => ?_)
  · replace h := h.1 hc
    exact qev_ret rfl rfl h
  · replace h := h.2 hc
    refine e_next (pc' := 6) rfl rfl ?_
    refine e_iconst (pc' := 7) rfl rfl kc_2 ?_
    refine e_icmp (x2 < (nI 2)) (pc' := 10) rfl rfl e_d (fun hc => ?_) (fun hc => ?_)
    · replace h := h.1 hc
      exact qev_ret rfl rfl h
    · replace h := h.2 hc
      refine e_next (pc' := 11) rfl rfl ?_
      refine e_bipush (pc' := 13) rfl rfl kb_24 ?_
      refine e_icmp ((nI 24) < x2) (pc' := 16) rfl rfl e_d (fun hc => ?_) (fun hc => ?_)
      · replace h := h.1 hc
        exact qev_ret rfl rfl h
      · replace h := h.2 hc
        refine e_next (pc' := 17) rfl rfl ?_
        refine e_next (pc' := 18) rfl rfl ?_
        refine e_putI (pc' := 21) rfl rfl (hs.o rfl) ?_
        refine e_next (pc' := 22) rfl rfl ?_
        refine e_next (pc' := 23) rfl rfl ?_
        refine e_putI (pc' := 26) rfl rfl (hs.o rfl) ?_
        exact qev_ret rfl rfl h
theorem w2 {d : Nat} {x1 : Int32} {g : qG} {I : qI} {J : qJ} {Q : qQ} (hs : qSh g)  (h : ¬ (I 12 7) = 0 ∧ Q (some (.int (qrem x1 (I 12 7)))) g I J) : qC d 2 [.ref 12, .int x1] g I J Q := by
  show qev d 2 (0, [.ref 12, .int x1], [], g, I, J) Q
  refine e_next (pc' := 1) rfl rfl ?_
  refine e_next (pc' := 2) rfl rfl ?_
  refine e_getI (pc' := 5) rfl (Or.inl rfl) rfl (hs.o rfl) ?_
  obtain ⟨hz1, h⟩ := h
  refine e_irem (pc' := 6) rfl rfl hz1 ?_
  exact e_iret rfl h
theorem w3 {d : Nat} {x1 : Int32} {g : qG} {I : qI} {J : qJ} {Q : qQ} (hs : qSh g)  (h : ¬ (I 12 7) = 0 ∧ qev d 3 (17, [.ref 12, .int x1, .int (nI 1), .int (qrem x1 (I 12 7)), .int ((I 12 7) - (nI 2))], [], g, I, J) Q) : qC d 3 [.ref 12, .int x1] g I J Q := by
  show qev d 3 (0, [.ref 12, .int x1, qpad, qpad, qpad], [], g, I, J) Q
  refine e_iconst (pc' := 1) rfl rfl kc_1 ?_
  refine e_next (pc' := 2) (ls' := [_, _, _, _, _]) rfl rfl ?_
  refine e_next (pc' := 3) rfl rfl ?_
  refine e_next (pc' := 4) rfl rfl ?_
  refine e_getI (pc' := 7) rfl (Or.inl rfl) rfl (hs.o rfl) ?_
  obtain ⟨hz1, h⟩ := h
  refine e_irem (pc' := 8) rfl rfl hz1 ?_
  refine e_next (pc' := 9) (ls' := [_, _, _, _, _]) rfl rfl ?_
  refine e_next (pc' := 10) rfl rfl ?_
  refine e_getI (pc' := 13) rfl (Or.inl rfl) rfl (hs.o rfl) ?_
  refine e_iconst (pc' := 14) rfl rfl kc_2 ?_
  refine e_next (pc' := 15) rfl rfl ?_
  refine e_next (pc' := 17) (ls' := [_, _, _, _, _]) rfl rfl ?_
  exact h
theorem w3_17 {d : Nat} {i1 : Int32} {i2 : Int32} {i3 : Int32} {i4 : Int32} {g : qG} {I : qI} {J : qJ} {Q : qQ} (hs : qSh g)  (h : ((i4 ≤ 0 → Q (some (.int i2)) g I J) ∧ (¬ i4 ≤ 0 → (((i4 &&& (nI 1)) = (nI 1) → ¬ (I 12 7) = 0 ∧ ¬ (I 12 7) = 0 ∧ qev d 3 (17, [.ref 12, .int i1, .int (qrem (i2 * i3) (I 12 7)), .int (qrem (i3 * i3) (I 12 7)), .int (qshr i4 (nI 1))], [], g, I, J) Q) ∧ (¬ (i4 &&& (nI 1)) = (nI 1) → ¬ (I 12 7) = 0 ∧ qev d 3 (17, [.ref 12, .int i1, .int i2, .int (qrem (i3 * i3) (I 12 7)), .int (qshr i4 (nI 1))], [], g, I, J) Q))))) : qev d 3 (17, [.ref 12, .int i1, .int i2, .int i3, .int i4], [], g, I, J) Q := by
  refine e_next (pc' := 19) rfl rfl ?_
  refine e_if (i4 ≤ 0) (pc' := 22) rfl rfl e_d (fun hc => ?_) (fun hc => ?_)
  · replace h := h.1 hc
    refine e_next (pc' := 58) rfl rfl ?_
    exact e_iret rfl h
  · replace h := h.2 hc
    refine e_next (pc' := 24) rfl rfl ?_
    refine e_iconst (pc' := 25) rfl rfl kc_1 ?_
    refine e_next (pc' := 26) rfl rfl ?_
    refine e_iconst (pc' := 27) rfl rfl kc_1 ?_
    refine e_icmp (¬ (i4 &&& (nI 1)) = (nI 1)) (pc' := 30) rfl rfl e_d (fun hc => ?_) (fun hc => ?_)
    · replace h := h.2 hc
      refine e_next (pc' := 40) rfl rfl ?_
      refine e_next (pc' := 41) rfl rfl ?_
      refine e_next (pc' := 42) rfl rfl ?_
      refine e_next (pc' := 43) rfl rfl ?_
      refine e_getI (pc' := 46) rfl (Or.inl rfl) rfl (hs.o rfl) ?_
      obtain ⟨hz1, h⟩ := h
      refine e_irem (pc' := 47) rfl rfl hz1 ?_
      refine e_next (pc' := 48) (ls' := [_, _, _, _, _]) rfl rfl ?_
      refine e_next (pc' := 50) rfl rfl ?_
      refine e_iconst (pc' := 51) rfl rfl kc_1 ?_
      refine e_next (pc' := 52) rfl rfl ?_
      refine e_next (pc' := 54) (ls' := [_, _, _, _, _]) rfl rfl ?_
      refine e_next (pc' := 17) rfl rfl ?_
      exact h
    · replace h := h.1 (Decidable.not_not.mp hc)
      refine e_next (pc' := 31) rfl rfl ?_
      refine e_next (pc' := 32) rfl rfl ?_
      refine e_next (pc' := 33) rfl rfl ?_
      refine e_next (pc' := 34) rfl rfl ?_
      refine e_getI (pc' := 37) rfl (Or.inl rfl) rfl (hs.o rfl) ?_
      obtain ⟨hz2, h⟩ := h
      refine e_irem (pc' := 38) rfl rfl hz2 ?_
      refine e_next (pc' := 39) (ls' := [_, _, _, _, _]) rfl rfl ?_
      refine e_next (pc' := 40) rfl rfl ?_
      refine e_next (pc' := 41) rfl rfl ?_
      refine e_next (pc' := 42) rfl rfl ?_
      refine e_next (pc' := 43) rfl rfl ?_
      refine e_getI (pc' := 46) rfl (Or.inl rfl) rfl (hs.o rfl) ?_
      obtain ⟨hz3, h⟩ := h
      refine e_irem (pc' := 47) rfl rfl hz3 ?_
      refine e_next (pc' := 48) (ls' := [_, _, _, _, _]) rfl rfl ?_
      refine e_next (pc' := 50) rfl rfl ?_
      refine e_iconst (pc' := 51) rfl rfl kc_1 ?_
      refine e_next (pc' := 52) rfl rfl ?_
      refine e_next (pc' := 54) (ls' := [_, _, _, _, _]) rfl rfl ?_
      refine e_next (pc' := 17) rfl rfl ?_
      exact h
theorem w4 {d : Nat} {x1 : Int32} {x2 : Int32} {x3 : Int32} {g : qG} {I : qI} {J : qJ} {Q : qQ}  (h : qev d 4 (6, [.ref 12, .int x1, .int x2, .int x3, .int (nI 1), .int (nI 0)], [], g, I, J) Q) : qC d 4 [.ref 12, .int x1, .int x2, .int x3] g I J Q := by
  show qev d 4 (0, [.ref 12, .int x1, .int x2, .int x3, qpad, qpad], [], g, I, J) Q
  refine e_iconst (pc' := 1) rfl rfl kc_1 ?_
  refine e_next (pc' := 3) (ls' := [_, _, _, _, _, _]) rfl rfl ?_
  refine e_iconst (pc' := 4) rfl rfl kc_0 ?_
  refine e_next (pc' := 6) (ls' := [_, _, _, _, _, _]) rfl rfl ?_
  exact h
theorem w4_6 {d : Nat} {i1 : Int32} {i2 : Int32} {i3 : Int32} {i4 : Int32} {i5 : Int32} {g : qG} {I : qI} {J : qJ} {Q : qQ} (hs : qSh g)  (h : ((i2 ≤ i5 → ((i4 = i3 → Q (some (.int (nI 1))) g I J) ∧ (¬ i4 = i3 → Q (some (.int (nI 0))) g I J))) ∧ (¬ i2 ≤ i5 → ¬ (I 12 7) = 0 ∧ qev d 4 (6, [.ref 12, .int i1, .int i2, .int i3, .int (qrem (i4 * i1) (I 12 7)), .int (i5 + (nI 1))], [], g, I, J) Q))) : qev d 4 (6, [.ref 12, .int i1, .int i2, .int i3, .int i4, .int i5], [], g, I, J) Q := by
  refine e_next (pc' := 8) rfl rfl ?_
  refine e_next (pc' := 9) rfl rfl ?_
  refine e_icmp (i2 ≤ i5) (pc' := 12) rfl rfl e_d (fun hc => ?_) (fun hc => ?_)
  · replace h := h.1 hc
    refine e_next (pc' := 31) rfl rfl ?_
    refine e_next (pc' := 32) rfl rfl ?_
    refine e_icmp (¬ i4 = i3) (pc' := 35) rfl rfl e_d (fun hc => ?_) (fun hc => ?_)
    · replace h := h.2 hc
      refine e_iconst (pc' := 40) rfl rfl kc_0 ?_
      exact e_zret rfl (Or.inl nI_0) h
    · replace h := h.1 (Decidable.not_not.mp hc)
      refine e_iconst (pc' := 36) rfl rfl kc_1 ?_
      refine e_next (pc' := 40) rfl rfl ?_
      exact e_zret rfl (Or.inr nI_one) h
  · replace h := h.2 hc
    refine e_next (pc' := 14) rfl rfl ?_
    refine e_next (pc' := 15) rfl rfl ?_
    refine e_next (pc' := 16) rfl rfl ?_
    refine e_next (pc' := 17) rfl rfl ?_
    refine e_getI (pc' := 20) rfl (Or.inl rfl) rfl (hs.o rfl) ?_
    obtain ⟨hz1, h⟩ := h
    refine e_irem (pc' := 21) rfl rfl hz1 ?_
    refine e_next (pc' := 23) (ls' := [_, _, _, _, _, _]) rfl rfl ?_
    refine e_iinc (pc' := 26) (ls' := [_, _, _, _, _, _]) (v := (nI 1)) rfl rfl kc_1 rfl rfl ?_
    refine e_next (pc' := 6) rfl rfl ?_
    exact h
theorem w5 {d : Nat} {x1 : Nat} {x2 : Int32} {g : qG} {I : qI} {J : qJ} {Q : qQ} (hs : qSh g) (h_x1 : qSer g x1) (h : qC d 268 [.ref (x1 + 1), .int (nI 0)] g I J (fun v _ I1 _ => v = none ∧ ¬ (I1 12 7) = 0 ∧ Q none g (qw (qw I1 (x1 + 1) 0 (qrem x2 (I1 12 7))) x1 1 ((qw I1 (x1 + 1) 0 (qrem x2 (I1 12 7))) 12 8)) J)) : qC (d + 1) 5 [.ref 12, .ref x1, .int x2] g I J Q := by
  show qev (d + 1) 5 (0, [.ref 12, .ref x1, .int x2], [], g, I, J) Q
  refine e_next (pc' := 1) rfl rfl ?_
  refine e_getR (pc' := 4) rfl rfl h_x1.o h_x1.a0 ?_
  refine e_iconst (pc' := 5) rfl rfl kc_0 ?_
  refine e_ciV (pc' := 8) rfl (e_sS (as := [_, _]) (fun _ => rfl) rfl (Nat.le_of_ble_eq_true rfl) rfl rfl (Nat.le_of_ble_eq_true rfl) (Nat.le_of_ble_eq_true rfl) rfl) rfl rfl ?_
  refine qev.mono h (fun v _ I1 _ h => ?_)
  obtain ⟨rfl, h⟩ := h
  refine ⟨rfl, ?_⟩
  refine e_next (pc' := 9) rfl rfl ?_
  refine e_getR (pc' := 12) rfl rfl h_x1.o h_x1.a0 ?_
  refine e_iconst (pc' := 13) rfl rfl kc_0 ?_
  refine e_next (pc' := 14) rfl rfl ?_
  refine e_next (pc' := 15) rfl rfl ?_
  refine e_getI (pc' := 18) rfl (Or.inl rfl) rfl (hs.o rfl) ?_
  obtain ⟨hz1, h⟩ := h
  refine e_irem (pc' := 19) rfl rfl hz1 ?_
  refine e_iast 0 (pc' := 20) rfl rfl h_x1.k0 rfl (by decide) (by decide) ?_
  refine e_next (pc' := 21) rfl rfl ?_
  refine e_next (pc' := 22) rfl rfl ?_
  refine e_getI (pc' := 25) rfl (Or.inl rfl) rfl (hs.o rfl) ?_
  refine e_putI (pc' := 28) rfl rfl h_x1.o ?_
  exact qev_ret rfl rfl h
theorem w6 {d : Nat} {x1 : Nat} {g : qG} {I : qI} {J : qJ} {Q : qQ} (hs : qSh g) (h_x1 : qSer g x1) (h : qC d 5 [.ref 12, .ref x1, .int (nI 0)] g I J (fun v _ I1 _ => v = none ∧ Q none g (qw I1 (x1 + 1) 1 (nI 1)) J)) : qC (d + 1) 6 [.ref 12, .ref x1] g I J Q := by
  show qev (d + 1) 6 (0, [.ref 12, .ref x1], [], g, I, J) Q
  refine e_next (pc' := 1) rfl rfl ?_
  refine e_next (pc' := 2) rfl rfl ?_
  refine e_iconst (pc' := 3) rfl rfl kc_0 ?_
  refine e_ciV (pc' := 6) rfl (e_sV (as := [_, _]) (fun _ => rfl) (Or.inl rfl) rfl (hs.o rfl) rfl rfl (Nat.le_of_ble_eq_true rfl) (Nat.le_of_ble_eq_true rfl) rfl) rfl rfl ?_
  refine qev.mono h (fun v _ I1 _ h => ?_)
  obtain ⟨rfl, h⟩ := h
  refine ⟨rfl, ?_⟩
  refine e_next (pc' := 7) rfl rfl ?_
  refine e_getR (pc' := 10) rfl rfl h_x1.o h_x1.a0 ?_
  refine e_iconst (pc' := 11) rfl rfl kc_1 ?_
  refine e_iconst (pc' := 12) rfl rfl kc_1 ?_
  refine e_iast 1 (pc' := 13) rfl rfl h_x1.k0 rfl (by decide) (by decide) ?_
  exact qev_ret rfl rfl h
theorem w7 {d : Nat} {x1 : Nat} {x2 : Nat} {x3 : Int32} {g : qG} {I : qI} {J : qJ} {Q : qQ} (h_x1 : qSer g x1) (h_x2 : qSer g x2) (h : qev d 7 (18, [.ref 12, .ref x1, .ref x2, .int x3, .int (nI 0)], [], g, (qw I x1 1 (qmin (I x1 1) (I x2 1))), J) Q) : qC d 7 [.ref 12, .ref x1, .ref x2, .int x3] g I J Q := by
  show qev d 7 (0, [.ref 12, .ref x1, .ref x2, .int x3, qpad], [], g, I, J) Q
  refine e_next (pc' := 1) rfl rfl ?_
  refine e_next (pc' := 2) rfl rfl ?_
  refine e_getI (pc' := 5) rfl (Or.inl rfl) rfl h_x1.o ?_
  refine e_next (pc' := 6) rfl rfl ?_
  refine e_getI (pc' := 9) rfl (Or.inl rfl) rfl h_x2.o ?_
  refine e_min (pc' := 12) rfl rfl (Nat.le_of_ble_eq_true rfl) ?_
  refine e_putI (pc' := 15) rfl rfl h_x1.o ?_
  refine e_iconst (pc' := 16) rfl rfl kc_0 ?_
  refine e_next (pc' := 18) (ls' := [_, _, _, _, _]) rfl rfl ?_
  exact h
theorem w7_18 {d : Nat} {x1 : Nat} {x2 : Nat} {i3 : Int32} {i4 : Int32} {g : qG} {I : qI} {J : qJ} {Q : qQ} (hs : qSh g) (h_x1 : qSer g x1) (h_x2 : qSer g x2) (h : (((I x1 1) ≤ i4 → Q none g I J) ∧ (¬ (I x1 1) ≤ i4 → ∃ k1, i4 = nI k1 ∧ k1 < 24 ∧ ∃ k2, i4 = nI k2 ∧ k2 < 24 ∧ ¬ (I 12 7) = 0 ∧ ∃ k3, i4 = nI k3 ∧ k3 < 24 ∧ qev d 7 (18, [.ref 12, .ref x1, .ref x2, .int i3, .int (i4 + (nI 1))], [], g, (qw I (x1 + 1) k3 (qrem ((I (x1 + 1) k1) + (i3 * (I (x2 + 1) k2))) (I 12 7))), J) Q))) : qev d 7 (18, [.ref 12, .ref x1, .ref x2, .int i3, .int i4], [], g, I, J) Q := by
  refine e_next (pc' := 20) rfl rfl ?_
  refine e_next (pc' := 21) rfl rfl ?_
  refine e_getI (pc' := 24) rfl (Or.inl rfl) rfl h_x1.o ?_
  refine e_icmp ((I x1 1) ≤ i4) (pc' := 27) rfl rfl e_d (fun hc => ?_) (fun hc => ?_)
  · replace h := h.1 hc
    exact qev_ret rfl rfl h
  · replace h := h.2 hc
    refine e_next (pc' := 28) rfl rfl ?_
    refine e_getR (pc' := 31) rfl rfl h_x1.o h_x1.a0 ?_
    refine e_next (pc' := 33) rfl rfl ?_
    refine e_next (pc' := 34) rfl rfl ?_
    refine e_getR (pc' := 37) rfl rfl h_x1.o h_x1.a0 ?_
    refine e_next (pc' := 39) rfl rfl ?_
    obtain ⟨k1, hi_k1, hj_k1, h⟩ := h
    refine e_iald k1 (pc' := 40) rfl rfl h_x1.k0 hi_k1 hj_k1 (by decide) ?_
    refine e_next (pc' := 41) rfl rfl ?_
    refine e_next (pc' := 42) rfl rfl ?_
    refine e_getR (pc' := 45) rfl rfl h_x2.o h_x2.a0 ?_
    refine e_next (pc' := 47) rfl rfl ?_
    obtain ⟨k2, hi_k2, hj_k2, h⟩ := h
    refine e_iald k2 (pc' := 48) rfl rfl h_x2.k0 hi_k2 hj_k2 (by decide) ?_
    refine e_next (pc' := 49) rfl rfl ?_
    refine e_next (pc' := 50) rfl rfl ?_
    refine e_next (pc' := 51) rfl rfl ?_
    refine e_getI (pc' := 54) rfl (Or.inl rfl) rfl (hs.o rfl) ?_
    obtain ⟨hz1, h⟩ := h
    refine e_irem (pc' := 55) rfl rfl hz1 ?_
    obtain ⟨k3, hi_k3, hj_k3, h⟩ := h
    refine e_iast k3 (pc' := 56) rfl rfl h_x1.k0 hi_k3 hj_k3 (by decide) ?_
    refine e_iinc (pc' := 59) (ls' := [_, _, _, _, _]) (v := (nI 1)) rfl rfl kc_1 rfl rfl ?_
    refine e_next (pc' := 18) rfl rfl ?_
    exact h
theorem w8 {d : Nat} {x1 : Nat} {x2 : Nat} {g : qG} {I : qI} {J : qJ} {Q : qQ} (h_x1 : qSer g x1) (h_x2 : qSer g x2) (h : qC d 75 [.ref x1, .int (I x2 1)] g I J (fun v _ I1 _ => v = none ∧ qev (d + 1) 8 (10, [.ref 12, .ref x1, .ref x2, .int (nI 0)], [], g, I1, J) Q)) : qC (d + 1) 8 [.ref 12, .ref x1, .ref x2] g I J Q := by
  show qev (d + 1) 8 (0, [.ref 12, .ref x1, .ref x2, qpad], [], g, I, J) Q
  refine e_next (pc' := 1) rfl rfl ?_
  refine e_next (pc' := 2) rfl rfl ?_
  refine e_getI (pc' := 5) rfl (Or.inl rfl) rfl h_x2.o ?_
  refine e_ciV (pc' := 8) rfl (e_sV (as := [_]) (fun _ => rfl) (Or.inl rfl) rfl h_x1.o rfl rfl (Nat.le_of_ble_eq_true rfl) (Nat.le_of_ble_eq_true rfl) rfl) rfl rfl ?_
  refine qev.mono h (fun v _ I1 _ h => ?_)
  obtain ⟨rfl, h⟩ := h
  refine ⟨rfl, ?_⟩
  refine e_iconst (pc' := 9) rfl rfl kc_0 ?_
  refine e_next (pc' := 10) (ls' := [_, _, _, _]) rfl rfl ?_
  exact h
theorem w8_10 {d : Nat} {x1 : Nat} {x2 : Nat} {i3 : Int32} {g : qG} {I : qI} {J : qJ} {Q : qQ} (hs : qSh g) (h_x1 : qSer g x1) (h_x2 : qSer g x2) (h : (((I x1 1) ≤ i3 → Q none g I J) ∧ (¬ (I x1 1) ≤ i3 → ∃ k1, i3 = nI k1 ∧ k1 < 24 ∧ ∃ k2, i3 = nI k2 ∧ k2 < 24 ∧ ¬ (I 12 7) = 0 ∧ ∃ k3, i3 = nI k3 ∧ k3 < 24 ∧ qev (d + 1) 8 (10, [.ref 12, .ref x1, .ref x2, .int (i3 + (nI 1))], [], g, (qw I (x1 + 1) k3 (qrem ((I (x1 + 1) k1) * (I (x2 + 1) k2)) (I 12 7))), J) Q))) : qev (d + 1) 8 (10, [.ref 12, .ref x1, .ref x2, .int i3], [], g, I, J) Q := by
  refine e_next (pc' := 11) rfl rfl ?_
  refine e_next (pc' := 12) rfl rfl ?_
  refine e_getI (pc' := 15) rfl (Or.inl rfl) rfl h_x1.o ?_
  refine e_icmp ((I x1 1) ≤ i3) (pc' := 18) rfl rfl e_d (fun hc => ?_) (fun hc => ?_)
  · replace h := h.1 hc
    exact qev_ret rfl rfl h
  · replace h := h.2 hc
    refine e_next (pc' := 19) rfl rfl ?_
    refine e_getR (pc' := 22) rfl rfl h_x1.o h_x1.a0 ?_
    refine e_next (pc' := 23) rfl rfl ?_
    refine e_next (pc' := 24) rfl rfl ?_
    refine e_getR (pc' := 27) rfl rfl h_x1.o h_x1.a0 ?_
    refine e_next (pc' := 28) rfl rfl ?_
    obtain ⟨k1, hi_k1, hj_k1, h⟩ := h
    refine e_iald k1 (pc' := 29) rfl rfl h_x1.k0 hi_k1 hj_k1 (by decide) ?_
    refine e_next (pc' := 30) rfl rfl ?_
    refine e_getR (pc' := 33) rfl rfl h_x2.o h_x2.a0 ?_
    refine e_next (pc' := 34) rfl rfl ?_
    obtain ⟨k2, hi_k2, hj_k2, h⟩ := h
    refine e_iald k2 (pc' := 35) rfl rfl h_x2.k0 hi_k2 hj_k2 (by decide) ?_
    refine e_next (pc' := 36) rfl rfl ?_
    refine e_next (pc' := 37) rfl rfl ?_
    refine e_getI (pc' := 40) rfl (Or.inl rfl) rfl (hs.o rfl) ?_
    obtain ⟨hz1, h⟩ := h
    refine e_irem (pc' := 41) rfl rfl hz1 ?_
    obtain ⟨k3, hi_k3, hj_k3, h⟩ := h
    refine e_iast k3 (pc' := 42) rfl rfl h_x1.k0 hi_k3 hj_k3 (by decide) ?_
    refine e_iinc (pc' := 45) (ls' := [_, _, _, _]) (v := (nI 1)) rfl rfl kc_1 rfl rfl ?_
    refine e_next (pc' := 10) rfl rfl ?_
    exact h
theorem w9 {d : Nat} {x1 : Nat} {x2 : Nat} {g : qG} {I : qI} {J : qJ} {Q : qQ} (hs : qSh g) (h_x1 : qSer g x1) (h_x2 : qSer g x2) (h : qC d 73 [.ref x1] g I J (fun v _ _ _ => ∃ r1, v = some (.int r1) ∧ qC d 73 [.ref x2] g I J (fun v _ _ _ => ∃ r2, v = some (.int r2) ∧ qev (d + 1) 9 (46, [.ref 12, .ref x1, .ref x2, .int r1, .int (I x1 1), .int (I x2 1), .int (qmin (I 12 8) (qmin (r1 + (I x2 1)) (r2 + (I x1 1)))), .int ((qmin (I 12 8) (qmin (r1 + (I x2 1)) (r2 + (I x1 1)))) - (nI 1)), qpad, qpad, qpad], [], g, I, J) Q))) : qC (d + 1) 9 [.ref 12, .ref x1, .ref x2] g I J Q := by
  show qev (d + 1) 9 (0, [.ref 12, .ref x1, .ref x2, qpad, qpad, qpad, qpad, qpad, qpad, qpad, qpad], [], g, I, J) Q
  refine e_next (pc' := 1) rfl rfl ?_
  refine e_cpI (pc' := 4) rfl (e_sV (as := []) (fun _ => rfl) (Or.inl rfl) rfl h_x1.o rfl rfl (Nat.le_of_ble_eq_true rfl) (Nat.le_of_ble_eq_true rfl) rfl) rfl rfl rfl ?_
  refine qev.mono h (fun v _ _ _ h => ?_)
  obtain ⟨r1, rfl, h⟩ := h
  refine ⟨r1, rfl, ?_⟩
  refine e_next (pc' := 5) (ls' := [_, _, _, _, _, _, _, _, _, _, _]) rfl rfl ?_
  refine e_next (pc' := 6) rfl rfl ?_
  refine e_getI (pc' := 9) rfl (Or.inl rfl) rfl h_x1.o ?_
  refine e_next (pc' := 11) (ls' := [_, _, _, _, _, _, _, _, _, _, _]) rfl rfl ?_
  refine e_next (pc' := 12) rfl rfl ?_
  refine e_getI (pc' := 15) rfl (Or.inl rfl) rfl h_x2.o ?_
  refine e_next (pc' := 17) (ls' := [_, _, _, _, _, _, _, _, _, _, _]) rfl rfl ?_
  refine e_next (pc' := 18) rfl rfl ?_
  refine e_getI (pc' := 21) rfl (Or.inl rfl) rfl (hs.o rfl) ?_
  refine e_next (pc' := 22) rfl rfl ?_
  refine e_next (pc' := 24) rfl rfl ?_
  refine e_next (pc' := 25) rfl rfl ?_
  refine e_next (pc' := 26) rfl rfl ?_
  refine e_cpI (pc' := 29) rfl (e_sV (as := []) (fun _ => rfl) (Or.inl rfl) rfl h_x2.o rfl rfl (Nat.le_of_ble_eq_true rfl) (Nat.le_of_ble_eq_true rfl) rfl) rfl rfl rfl ?_
  refine qev.mono h (fun v _ _ _ h => ?_)
  obtain ⟨r2, rfl, h⟩ := h
  refine ⟨r2, rfl, ?_⟩
  refine e_next (pc' := 31) rfl rfl ?_
  refine e_next (pc' := 32) rfl rfl ?_
  refine e_min (pc' := 35) rfl rfl (Nat.le_of_ble_eq_true rfl) ?_
  refine e_min (pc' := 38) rfl rfl (Nat.le_of_ble_eq_true rfl) ?_
  refine e_next (pc' := 40) (ls' := [_, _, _, _, _, _, _, _, _, _, _]) rfl rfl ?_
  refine e_next (pc' := 42) rfl rfl ?_
  refine e_iconst (pc' := 43) rfl rfl kc_1 ?_
  refine e_next (pc' := 44) rfl rfl ?_
  refine e_next (pc' := 46) (ls' := [_, _, _, _, _, _, _, _, _, _, _]) rfl rfl ?_
  exact h
theorem w9_46 {d : Nat} {x1 : Nat} {x2 : Nat} {i3 : Int32} {i4 : Int32} {i5 : Int32} {i6 : Int32} {i7 : Int32} {w8 : Value} {w9 : Value} {w10 : Value} {g : qG} {I : qI} {J : qJ} {Q : qQ} (h_x1 : qSer g x1) (h_x2 : qSer g x2) (h : ((i7 < 0 → Q none g (qw I x1 1 i6) J) ∧ (¬ i7 < 0 → qev (d + 1) 9 (78, [.ref 12, .ref x1, .ref x2, .int i3, .int i4, .int i5, .int i6, .int i7, .int (nI 0), .int (qmin i7 (i4 - (nI 1))), .int (qmax i3 ((i7 - i5) + (nI 1)))], [], g, I, J) Q))) : qev (d + 1) 9 (46, [.ref 12, .ref x1, .ref x2, .int i3, .int i4, .int i5, .int i6, .int i7, w8, w9, w10], [], g, I, J) Q := by
  refine e_next (pc' := 48) rfl rfl ?_
  refine e_if (i7 < 0) (pc' := 51) rfl rfl e_d (fun hc => ?_) (fun hc => ?_)
  · replace h := h.1 hc
    refine e_next (pc' := 135) rfl rfl ?_
    refine e_next (pc' := 137) rfl rfl ?_
    refine e_putI (pc' := 140) rfl rfl h_x1.o ?_
    exact qev_ret rfl rfl h
  · replace h := h.2 hc
    refine e_iconst (pc' := 52) rfl rfl kc_0 ?_
    refine e_next (pc' := 54) (ls' := [_, _, _, _, _, _, _, _, _, _, _]) rfl rfl ?_
    refine e_next (pc' := 56) rfl rfl ?_
    refine e_next (pc' := 58) rfl rfl ?_
    refine e_iconst (pc' := 59) rfl rfl kc_1 ?_
    refine e_next (pc' := 60) rfl rfl ?_
    refine e_min (pc' := 63) rfl rfl (Nat.le_of_ble_eq_true rfl) ?_
    refine e_next (pc' := 65) (ls' := [_, _, _, _, _, _, _, _, _, _, _]) rfl rfl ?_
    refine e_next (pc' := 66) rfl rfl ?_
    refine e_next (pc' := 68) rfl rfl ?_
    refine e_next (pc' := 70) rfl rfl ?_
    refine e_next (pc' := 71) rfl rfl ?_
    refine e_iconst (pc' := 72) rfl rfl kc_1 ?_
    refine e_next (pc' := 73) rfl rfl ?_
    refine e_max (pc' := 76) rfl rfl (Nat.le_of_ble_eq_true rfl) ?_
    refine e_next (pc' := 78) (ls' := [_, _, _, _, _, _, _, _, _, _, _]) rfl rfl ?_
    exact h
theorem w9_78 {d : Nat} {x1 : Nat} {x2 : Nat} {i3 : Int32} {i4 : Int32} {i5 : Int32} {i6 : Int32} {i7 : Int32} {i8 : Int32} {i9 : Int32} {i10 : Int32} {g : qG} {I : qI} {J : qJ} {Q : qQ} (hs : qSh g) (h_x1 : qSer g x1) (h_x2 : qSer g x2) (h : ((i9 < i10 → ¬ (I 12 7) = 0 ∧ ∃ k1, i7 = nI k1 ∧ k1 < 24 ∧ qev (d + 1) 9 (46, [.ref 12, .ref x1, .ref x2, .int i3, .int i4, .int i5, .int i6, .int (i7 + (-1)), .int i8, .int i9, .int i10], [], g, (qw I (x1 + 1) k1 (qrem i8 (I 12 7))), J) Q) ∧ (¬ i9 < i10 → ∃ k2, i10 = nI k2 ∧ k2 < 24 ∧ ∃ k3, (i7 - i10) = nI k3 ∧ k3 < 24 ∧ qev (d + 1) 9 (78, [.ref 12, .ref x1, .ref x2, .int i3, .int i4, .int i5, .int i6, .int i7, .int (i8 + ((I (x1 + 1) k2) * (I (x2 + 1) k3))), .int i9, .int (i10 + (nI 1))], [], g, I, J) Q))) : qev (d + 1) 9 (78, [.ref 12, .ref x1, .ref x2, .int i3, .int i4, .int i5, .int i6, .int i7, .int i8, .int i9, .int i10], [], g, I, J) Q := by
  refine e_next (pc' := 80) rfl rfl ?_
  refine e_next (pc' := 82) rfl rfl ?_
  refine e_icmp (i9 < i10) (pc' := 85) rfl rfl e_d (fun hc => ?_) (fun hc => ?_)
  · replace h := h.1 hc
    refine e_next (pc' := 115) rfl rfl ?_
    refine e_getR (pc' := 118) rfl rfl h_x1.o h_x1.a0 ?_
    refine e_next (pc' := 120) rfl rfl ?_
    refine e_next (pc' := 122) rfl rfl ?_
    refine e_next (pc' := 123) rfl rfl ?_
    refine e_getI (pc' := 126) rfl (Or.inl rfl) rfl (hs.o rfl) ?_
    obtain ⟨hz1, h⟩ := h
    refine e_irem (pc' := 127) rfl rfl hz1 ?_
    obtain ⟨k1, hi_k1, hj_k1, h⟩ := h
    refine e_iast k1 (pc' := 128) rfl rfl h_x1.k0 hi_k1 hj_k1 (by decide) ?_
    refine e_iinc (pc' := 131) (ls' := [_, _, _, _, _, _, _, _, _, _, _]) (v := (-1)) rfl rfl kc_m1 rfl rfl ?_
    refine e_next (pc' := 46) rfl rfl ?_
    exact h
  · replace h := h.2 hc
    refine e_next (pc' := 87) rfl rfl ?_
    refine e_next (pc' := 88) rfl rfl ?_
    refine e_getR (pc' := 91) rfl rfl h_x1.o h_x1.a0 ?_
    refine e_next (pc' := 93) rfl rfl ?_
    obtain ⟨k2, hi_k2, hj_k2, h⟩ := h
    refine e_iald k2 (pc' := 94) rfl rfl h_x1.k0 hi_k2 hj_k2 (by decide) ?_
    refine e_next (pc' := 95) rfl rfl ?_
    refine e_getR (pc' := 98) rfl rfl h_x2.o h_x2.a0 ?_
    refine e_next (pc' := 100) rfl rfl ?_
    refine e_next (pc' := 102) rfl rfl ?_
    refine e_next (pc' := 103) rfl rfl ?_
    obtain ⟨k3, hi_k3, hj_k3, h⟩ := h
    refine e_iald k3 (pc' := 104) rfl rfl h_x2.k0 hi_k3 hj_k3 (by decide) ?_
    refine e_next (pc' := 105) rfl rfl ?_
    refine e_next (pc' := 106) rfl rfl ?_
    refine e_next (pc' := 108) (ls' := [_, _, _, _, _, _, _, _, _, _, _]) rfl rfl ?_
    refine e_iinc (pc' := 111) (ls' := [_, _, _, _, _, _, _, _, _, _, _]) (v := (nI 1)) rfl rfl kc_1 rfl rfl ?_
    refine e_next (pc' := 78) rfl rfl ?_
    exact h
theorem w10 {d : Nat} {x1 : Nat} {x2 : Int32} {g : qG} {I : qI} {J : qJ} {Q : qQ} (hs : qSh g) (h_x1 : qSer g x1) (h : qC d 74 [.ref 16, .ref x1] g I J (fun v _ I1 _ => v = none ∧ qC d 5 [.ref 12, .ref x1, .int (nI 1)] g I1 J (fun v _ I2 _ => v = none ∧ qev (d + 1) 10 (16, [.ref 12, .ref x1, .int x2, .int x2], [], g, I2, J) Q))) : qC (d + 1) 10 [.ref 12, .ref x1, .int x2] g I J Q := by
  show qev (d + 1) 10 (0, [.ref 12, .ref x1, .int x2, qpad], [], g, I, J) Q
  refine e_next (pc' := 1) rfl rfl ?_
  refine e_getR (pc' := 4) rfl rfl (hs.o rfl) (hs.a rfl) ?_
  refine e_next (pc' := 5) rfl rfl ?_
  refine e_ciV (pc' := 8) rfl (e_sV (as := [_]) (fun _ => rfl) (Or.inl rfl) rfl (hs.o rfl) rfl rfl (Nat.le_of_ble_eq_true rfl) (Nat.le_of_ble_eq_true rfl) rfl) rfl rfl ?_
  refine qev.mono h (fun v _ I1 _ h => ?_)
  obtain ⟨rfl, h⟩ := h
  refine ⟨rfl, ?_⟩
  refine e_next (pc' := 9) rfl rfl ?_
  refine e_next (pc' := 10) rfl rfl ?_
  refine e_iconst (pc' := 11) rfl rfl kc_1 ?_
  refine e_ciV (pc' := 14) rfl (e_sV (as := [_, _]) (fun _ => rfl) (Or.inl rfl) rfl (hs.o rfl) rfl rfl (Nat.le_of_ble_eq_true rfl) (Nat.le_of_ble_eq_true rfl) rfl) rfl rfl ?_
  refine qev.mono h (fun v _ I2 _ h => ?_)
  obtain ⟨rfl, h⟩ := h
  refine ⟨rfl, ?_⟩
  refine e_next (pc' := 15) rfl rfl ?_
  refine e_next (pc' := 16) (ls' := [_, _, _, _]) rfl rfl ?_
  exact h
theorem w10_16 {d : Nat} {x1 : Nat} {i2 : Int32} {i3 : Int32} {g : qG} {I : qI} {J : qJ} {Q : qQ} (hs : qSh g) (h_x1 : qSer g x1) (h : ((i3 ≤ 0 → Q none g I J) ∧ (¬ i3 ≤ 0 → (((i3 &&& (nI 1)) = (nI 1) → qC d 9 [.ref 12, .ref x1, .ref 16] g I J (fun v _ I2 _ => v = none ∧ ((i3 ≤ (nI 1) → qev (d + 1) 10 (16, [.ref 12, .ref x1, .int i2, .int (qshr i3 (nI 1))], [], g, I2, J) Q) ∧ (¬ i3 ≤ (nI 1) → qC d 9 [.ref 12, .ref 16, .ref 16] g I2 J (fun v _ I3 _ => v = none ∧ qev (d + 1) 10 (16, [.ref 12, .ref x1, .int i2, .int (qshr i3 (nI 1))], [], g, I3, J) Q))))) ∧ (¬ (i3 &&& (nI 1)) = (nI 1) → ((i3 ≤ (nI 1) → qev (d + 1) 10 (16, [.ref 12, .ref x1, .int i2, .int (qshr i3 (nI 1))], [], g, I, J) Q) ∧ (¬ i3 ≤ (nI 1) → qC d 9 [.ref 12, .ref 16, .ref 16] g I J (fun v _ I1 _ => v = none ∧ qev (d + 1) 10 (16, [.ref 12, .ref x1, .int i2, .int (qshr i3 (nI 1))], [], g, I1, J) Q)))))))) : qev (d + 1) 10 (16, [.ref 12, .ref x1, .int i2, .int i3], [], g, I, J) Q := by
  refine e_next (pc' := 17) rfl rfl ?_
  refine e_if (i3 ≤ 0) (pc' := 20) rfl rfl e_d (fun hc => ?_) (fun hc => ?_)
  · replace h := h.1 hc
    exact qev_ret rfl rfl h
  · replace h := h.2 hc
    refine e_next (pc' := 21) rfl rfl ?_
    refine e_iconst (pc' := 22) rfl rfl kc_1 ?_
    refine e_next (pc' := 23) rfl rfl ?_
    refine e_iconst (pc' := 24) rfl rfl kc_1 ?_
    refine e_icmp (¬ (i3 &&& (nI 1)) = (nI 1)) (pc' := 27) rfl rfl e_d (fun hc => ?_) (fun hc => ?_)
    · replace h := h.2 hc
      refine e_next (pc' := 37) rfl rfl ?_
      refine e_iconst (pc' := 38) rfl rfl kc_1 ?_
      refine e_icmp (i3 ≤ (nI 1)) (pc' := 41) rfl rfl e_d (fun hc => ?_) (fun hc => ?_)
      · replace h := h.1 hc
        refine e_next (pc' := 54) rfl rfl ?_
        refine e_iconst (pc' := 55) rfl rfl kc_1 ?_
        refine e_next (pc' := 56) rfl rfl ?_
        refine e_next (pc' := 57) (ls' := [_, _, _, _]) rfl rfl ?_
        refine e_next (pc' := 16) rfl rfl ?_
        exact h
      · replace h := h.2 hc
        refine e_next (pc' := 42) rfl rfl ?_
        refine e_next (pc' := 43) rfl rfl ?_
        refine e_getR (pc' := 46) rfl rfl (hs.o rfl) (hs.a rfl) ?_
        refine e_next (pc' := 47) rfl rfl ?_
        refine e_getR (pc' := 50) rfl rfl (hs.o rfl) (hs.a rfl) ?_
        refine e_ciV (pc' := 53) rfl (e_sV (as := [_, _]) (fun _ => rfl) (Or.inl rfl) rfl (hs.o rfl) rfl rfl (Nat.le_of_ble_eq_true rfl) (Nat.le_of_ble_eq_true rfl) rfl) rfl rfl ?_
        refine qev.mono h (fun v _ I1 _ h => ?_)
        obtain ⟨rfl, h⟩ := h
        refine ⟨rfl, ?_⟩
        refine e_next (pc' := 54) rfl rfl ?_
        refine e_iconst (pc' := 55) rfl rfl kc_1 ?_
        refine e_next (pc' := 56) rfl rfl ?_
        refine e_next (pc' := 57) (ls' := [_, _, _, _]) rfl rfl ?_
        refine e_next (pc' := 16) rfl rfl ?_
        exact h
    · replace h := h.1 (Decidable.not_not.mp hc)
      refine e_next (pc' := 28) rfl rfl ?_
      refine e_next (pc' := 29) rfl rfl ?_
      refine e_next (pc' := 30) rfl rfl ?_
      refine e_getR (pc' := 33) rfl rfl (hs.o rfl) (hs.a rfl) ?_
      refine e_ciV (pc' := 36) rfl (e_sV (as := [_, _]) (fun _ => rfl) (Or.inl rfl) rfl (hs.o rfl) rfl rfl (Nat.le_of_ble_eq_true rfl) (Nat.le_of_ble_eq_true rfl) rfl) rfl rfl ?_
      refine qev.mono h (fun v _ I2 _ h => ?_)
      obtain ⟨rfl, h⟩ := h
      refine ⟨rfl, ?_⟩
      refine e_next (pc' := 37) rfl rfl ?_
      refine e_iconst (pc' := 38) rfl rfl kc_1 ?_
      refine e_icmp (i3 ≤ (nI 1)) (pc' := 41) rfl rfl e_d (fun hc => ?_) (fun hc => ?_)
      · replace h := h.1 hc
        refine e_next (pc' := 54) rfl rfl ?_
        refine e_iconst (pc' := 55) rfl rfl kc_1 ?_
        refine e_next (pc' := 56) rfl rfl ?_
        refine e_next (pc' := 57) (ls' := [_, _, _, _]) rfl rfl ?_
        refine e_next (pc' := 16) rfl rfl ?_
        exact h
      · replace h := h.2 hc
        refine e_next (pc' := 42) rfl rfl ?_
        refine e_next (pc' := 43) rfl rfl ?_
        refine e_getR (pc' := 46) rfl rfl (hs.o rfl) (hs.a rfl) ?_
        refine e_next (pc' := 47) rfl rfl ?_
        refine e_getR (pc' := 50) rfl rfl (hs.o rfl) (hs.a rfl) ?_
        refine e_ciV (pc' := 53) rfl (e_sV (as := [_, _]) (fun _ => rfl) (Or.inl rfl) rfl (hs.o rfl) rfl rfl (Nat.le_of_ble_eq_true rfl) (Nat.le_of_ble_eq_true rfl) rfl) rfl rfl ?_
        refine qev.mono h (fun v _ I3 _ h => ?_)
        obtain ⟨rfl, h⟩ := h
        refine ⟨rfl, ?_⟩
        refine e_next (pc' := 54) rfl rfl ?_
        refine e_iconst (pc' := 55) rfl rfl kc_1 ?_
        refine e_next (pc' := 56) rfl rfl ?_
        refine e_next (pc' := 57) (ls' := [_, _, _, _]) rfl rfl ?_
        refine e_next (pc' := 16) rfl rfl ?_
        exact h
theorem w11 {d : Nat} {x1 : Nat} {g : qG} {I : qI} {J : qJ} {Q : qQ} (hs : qSh g) (h_x1 : qSer g x1) (h : qC d 3 [.ref 12, .int (I (x1 + 1) 0)] g I J (fun v _ _ _ => ∃ r1, v = some (.int r1) ∧ qev (d + 1) 11 (20, [.ref 12, .ref x1, .int r1, .int (nI 1), qpad, qpad], [], g, (qw I 13 0 r1), J) Q)) : qC (d + 1) 11 [.ref 12, .ref x1] g I J Q := by
  show qev (d + 1) 11 (0, [.ref 12, .ref x1, qpad, qpad, qpad, qpad], [], g, I, J) Q
  refine e_next (pc' := 1) rfl rfl ?_
  refine e_next (pc' := 2) rfl rfl ?_
  refine e_getR (pc' := 5) rfl rfl h_x1.o h_x1.a0 ?_
  refine e_iconst (pc' := 6) rfl rfl kc_0 ?_
  refine e_iald 0 (pc' := 7) rfl rfl h_x1.k0 rfl (by decide) (by decide) ?_
  refine e_cpI (pc' := 10) rfl (e_sV (as := [_]) (fun _ => rfl) (Or.inl rfl) rfl (hs.o rfl) rfl rfl (Nat.le_of_ble_eq_true rfl) (Nat.le_of_ble_eq_true rfl) rfl) rfl rfl rfl ?_
  refine qev.mono h (fun v _ _ _ h => ?_)
  obtain ⟨r1, rfl, h⟩ := h
  refine ⟨r1, rfl, ?_⟩
  refine e_next (pc' := 11) (ls' := [_, _, _, _, _, _]) rfl rfl ?_
  refine e_next (pc' := 12) rfl rfl ?_
  refine e_getR (pc' := 15) rfl rfl (hs.o rfl) (hs.a rfl) ?_
  refine e_iconst (pc' := 16) rfl rfl kc_0 ?_
  refine e_next (pc' := 17) rfl rfl ?_
  refine e_iast 0 (pc' := 18) rfl rfl (hs.k rfl) rfl (by decide) (by decide) ?_
  refine e_iconst (pc' := 19) rfl rfl kc_1 ?_
  refine e_next (pc' := 20) (ls' := [_, _, _, _, _, _]) rfl rfl ?_
  exact h
theorem w11_20 {d : Nat} {x1 : Nat} {i2 : Int32} {i3 : Int32} {w4 : Value} {w5 : Value} {g : qG} {I : qI} {J : qJ} {Q : qQ} (hs : qSh g) (h_x1 : qSer g x1) (h : (((I x1 1) ≤ i3 → ∃ s1 t1 n1 : Nat, (nI 0) = nI s1 ∧ (nI 0) = nI t1 ∧ (I x1 1) = nI n1 ∧ s1 + n1 ≤ 24 ∧ t1 + n1 ≤ 24 ∧ Q none g (va_up I (x1 + 1) (va_cpy (I 13) (I (x1 + 1)) s1 t1 n1)) J) ∧ (¬ (I x1 1) ≤ i3 → qev (d + 1) 11 (34, [.ref 12, .ref x1, .int i2, .int i3, .int (nI 0), .int (nI 1)], [], g, I, J) Q))) : qev (d + 1) 11 (20, [.ref 12, .ref x1, .int i2, .int i3, w4, w5], [], g, I, J) Q := by
  refine e_next (pc' := 21) rfl rfl ?_
  refine e_next (pc' := 22) rfl rfl ?_
  refine e_getI (pc' := 25) rfl (Or.inl rfl) rfl h_x1.o ?_
  refine e_icmp ((I x1 1) ≤ i3) (pc' := 28) rfl rfl e_d (fun hc => ?_) (fun hc => ?_)
  · replace h := h.1 hc
    refine e_next (pc' := 100) rfl rfl ?_
    refine e_getR (pc' := 103) rfl rfl (hs.o rfl) (hs.a rfl) ?_
    refine e_iconst (pc' := 104) rfl rfl kc_0 ?_
    refine e_next (pc' := 105) rfl rfl ?_
    refine e_getR (pc' := 108) rfl rfl h_x1.o h_x1.a0 ?_
    refine e_iconst (pc' := 109) rfl rfl kc_0 ?_
    refine e_next (pc' := 110) rfl rfl ?_
    refine e_getI (pc' := 113) rfl (Or.inl rfl) rfl h_x1.o ?_
    obtain ⟨s1, t1, n1, hs_s1, hd_s1, hn_s1, h1_s1, h2_s1, h⟩ := h
    refine e_copy s1 t1 n1 (pc' := 116) rfl rfl (Nat.le_of_ble_eq_true rfl) (hs.k rfl) h_x1.k0 hs_s1 hd_s1 hn_s1 h1_s1 h2_s1 (by decide) (by decide) ?_
    exact qev_ret rfl rfl h
  · replace h := h.2 hc
    refine e_iconst (pc' := 29) rfl rfl kc_0 ?_
    refine e_next (pc' := 31) (ls' := [_, _, _, _, _, _]) rfl rfl ?_
    refine e_iconst (pc' := 32) rfl rfl kc_1 ?_
    refine e_next (pc' := 34) (ls' := [_, _, _, _, _, _]) rfl rfl ?_
    exact h
theorem w11_34 {d : Nat} {x1 : Nat} {i2 : Int32} {i3 : Int32} {i4 : Int32} {i5 : Int32} {g : qG} {I : qI} {J : qJ} {Q : qQ} (hs : qSh g) (h_x1 : qSer g x1) (h : ((i3 < i5 → ¬ (I 12 7) = 0 ∧ ¬ (I 12 7) = 0 ∧ ∃ k1, i3 = nI k1 ∧ k1 < 24 ∧ qev (d + 1) 11 (20, [.ref 12, .ref x1, .int i2, .int (i3 + (nI 1)), .int i4, .int i5], [], g, (qw I 13 k1 (qrem (((I 12 7) - (qrem i4 (I 12 7))) * i2) (I 12 7))), J) Q) ∧ (¬ i3 < i5 → ∃ k2, i5 = nI k2 ∧ k2 < 24 ∧ ∃ k3, (i3 - i5) = nI k3 ∧ k3 < 24 ∧ qev (d + 1) 11 (34, [.ref 12, .ref x1, .int i2, .int i3, .int (i4 + ((I (x1 + 1) k2) * (I 13 k3))), .int (i5 + (nI 1))], [], g, I, J) Q))) : qev (d + 1) 11 (34, [.ref 12, .ref x1, .int i2, .int i3, .int i4, .int i5], [], g, I, J) Q := by
  refine e_next (pc' := 36) rfl rfl ?_
  refine e_next (pc' := 37) rfl rfl ?_
  refine e_icmp (i3 < i5) (pc' := 40) rfl rfl e_d (fun hc => ?_) (fun hc => ?_)
  · replace h := h.1 hc
    refine e_next (pc' := 69) rfl rfl ?_
    refine e_getR (pc' := 72) rfl rfl (hs.o rfl) (hs.a rfl) ?_
    refine e_next (pc' := 73) rfl rfl ?_
    refine e_next (pc' := 74) rfl rfl ?_
    refine e_getI (pc' := 77) rfl (Or.inl rfl) rfl (hs.o rfl) ?_
    refine e_next (pc' := 79) rfl rfl ?_
    refine e_next (pc' := 80) rfl rfl ?_
    refine e_getI (pc' := 83) rfl (Or.inl rfl) rfl (hs.o rfl) ?_
    obtain ⟨hz1, h⟩ := h
    refine e_irem (pc' := 84) rfl rfl hz1 ?_
    refine e_next (pc' := 85) rfl rfl ?_
    refine e_next (pc' := 86) rfl rfl ?_
    refine e_next (pc' := 87) rfl rfl ?_
    refine e_next (pc' := 88) rfl rfl ?_
    refine e_getI (pc' := 91) rfl (Or.inl rfl) rfl (hs.o rfl) ?_
    obtain ⟨hz2, h⟩ := h
    refine e_irem (pc' := 92) rfl rfl hz2 ?_
    obtain ⟨k1, hi_k1, hj_k1, h⟩ := h
    refine e_iast k1 (pc' := 93) rfl rfl (hs.k rfl) hi_k1 hj_k1 (by decide) ?_
    refine e_iinc (pc' := 96) (ls' := [_, _, _, _, _, _]) (v := (nI 1)) rfl rfl kc_1 rfl rfl ?_
    refine e_next (pc' := 20) rfl rfl ?_
    exact h
  · replace h := h.2 hc
    refine e_next (pc' := 42) rfl rfl ?_
    refine e_next (pc' := 43) rfl rfl ?_
    refine e_getR (pc' := 46) rfl rfl h_x1.o h_x1.a0 ?_
    refine e_next (pc' := 48) rfl rfl ?_
    obtain ⟨k2, hi_k2, hj_k2, h⟩ := h
    refine e_iald k2 (pc' := 49) rfl rfl h_x1.k0 hi_k2 hj_k2 (by decide) ?_
    refine e_next (pc' := 50) rfl rfl ?_
    refine e_getR (pc' := 53) rfl rfl (hs.o rfl) (hs.a rfl) ?_
    refine e_next (pc' := 54) rfl rfl ?_
    refine e_next (pc' := 56) rfl rfl ?_
    refine e_next (pc' := 57) rfl rfl ?_
    obtain ⟨k3, hi_k3, hj_k3, h⟩ := h
    refine e_iald k3 (pc' := 58) rfl rfl (hs.k rfl) hi_k3 hj_k3 (by decide) ?_
    refine e_next (pc' := 59) rfl rfl ?_
    refine e_next (pc' := 60) rfl rfl ?_
    refine e_next (pc' := 62) (ls' := [_, _, _, _, _, _]) rfl rfl ?_
    refine e_iinc (pc' := 65) (ls' := [_, _, _, _, _, _]) (v := (nI 1)) rfl rfl kc_1 rfl rfl ?_
    refine e_next (pc' := 34) rfl rfl ?_
    exact h
theorem w12 {d : Nat} {x1 : Nat} {x2 : Nat} {g : qG} {I : qI} {J : qJ} {Q : qQ} (hs : qSh g) (h_x1 : qSer g x1) (h_x2 : qSer g x2) (h : qC d 73 [.ref x2] g I J (fun v _ _ _ => ∃ r1, v = some (.int r1) ∧ ((r1 = (I x2 1) → Q (some (.int (nI 2))) g I J) ∧ (¬ r1 = (I x2 1) → qC d 73 [.ref x1] g I J (fun v _ _ _ => ∃ r2, v = some (.int r2) ∧ ((r1 ≤ r2 → ((r1 = (I x1 1) → Q (some (.int (nI 5))) g I J) ∧ (¬ r1 = (I x1 1) → qC d 77 [.ref x1, .int r1] g I J (fun v _ I1 _ => v = none ∧ qC d 77 [.ref x2, .int r1] g I1 J (fun v _ I2 _ => v = none ∧ qC d 11 [.ref 12, .ref x2] g I2 J (fun v _ I3 _ => v = none ∧ qC d 9 [.ref 12, .ref x1, .ref x2] g I3 J (fun v _ I4 _ => v = none ∧ Q (some (.int (-1))) g I4 J))))))) ∧ (¬ r1 ≤ r2 → Q (some (.int (nI 2))) g I J))))))) : qC (d + 1) 12 [.ref 12, .ref x1, .ref x2] g I J Q := by
  show qev (d + 1) 12 (0, [.ref 12, .ref x1, .ref x2, qpad], [], g, I, J) Q
  refine e_next (pc' := 1) rfl rfl ?_
  refine e_cpI (pc' := 4) rfl (e_sV (as := []) (fun _ => rfl) (Or.inl rfl) rfl h_x2.o rfl rfl (Nat.le_of_ble_eq_true rfl) (Nat.le_of_ble_eq_true rfl) rfl) rfl rfl rfl ?_
  refine qev.mono h (fun v _ _ _ h => ?_)
  obtain ⟨r1, rfl, h⟩ := h
  refine ⟨r1, rfl, ?_⟩
  refine e_next (pc' := 5) (ls' := [_, _, _, _]) rfl rfl ?_
  refine e_next (pc' := 6) rfl rfl ?_
  refine e_next (pc' := 7) rfl rfl ?_
  refine e_getI (pc' := 10) rfl (Or.inl rfl) rfl h_x2.o ?_
  refine e_icmp (r1 = (I x2 1)) (pc' := 13) rfl rfl e_d (fun hc => ?_) (fun hc => ?_)
  · replace h := h.1 hc
    refine e_iconst (pc' := 22) rfl rfl kc_2 ?_
    exact e_iret rfl h
  · replace h := h.2 hc
    refine e_next (pc' := 14) rfl rfl ?_
    refine e_next (pc' := 15) rfl rfl ?_
    refine e_cpI (pc' := 18) rfl (e_sV (as := []) (fun _ => rfl) (Or.inl rfl) rfl h_x1.o rfl rfl (Nat.le_of_ble_eq_true rfl) (Nat.le_of_ble_eq_true rfl) rfl) rfl rfl rfl ?_
    refine qev.mono h (fun v _ _ _ h => ?_)
    obtain ⟨r2, rfl, h⟩ := h
    refine ⟨r2, rfl, ?_⟩
    refine e_icmp (r1 ≤ r2) (pc' := 21) rfl rfl e_d (fun hc => ?_) (fun hc => ?_)
    · replace h := h.1 hc
      refine e_next (pc' := 24) rfl rfl ?_
      refine e_next (pc' := 25) rfl rfl ?_
      refine e_getI (pc' := 28) rfl (Or.inl rfl) rfl h_x1.o ?_
      refine e_icmp (¬ r1 = (I x1 1)) (pc' := 31) rfl rfl e_d (fun hc => ?_) (fun hc => ?_)
      · replace h := h.2 hc
        refine e_next (pc' := 34) rfl rfl ?_
        refine e_next (pc' := 35) rfl rfl ?_
        refine e_ciV (pc' := 38) rfl (e_sV (as := [_]) (fun _ => rfl) (Or.inl rfl) rfl h_x1.o rfl rfl (Nat.le_of_ble_eq_true rfl) (Nat.le_of_ble_eq_true rfl) rfl) rfl rfl ?_
        refine qev.mono h (fun v _ I1 _ h => ?_)
        obtain ⟨rfl, h⟩ := h
        refine ⟨rfl, ?_⟩
        refine e_next (pc' := 39) rfl rfl ?_
        refine e_next (pc' := 40) rfl rfl ?_
        refine e_ciV (pc' := 43) rfl (e_sV (as := [_]) (fun _ => rfl) (Or.inl rfl) rfl h_x2.o rfl rfl (Nat.le_of_ble_eq_true rfl) (Nat.le_of_ble_eq_true rfl) rfl) rfl rfl ?_
        refine qev.mono h (fun v _ I2 _ h => ?_)
        obtain ⟨rfl, h⟩ := h
        refine ⟨rfl, ?_⟩
        refine e_next (pc' := 44) rfl rfl ?_
        refine e_next (pc' := 45) rfl rfl ?_
        refine e_ciV (pc' := 48) rfl (e_sV (as := [_]) (fun _ => rfl) (Or.inl rfl) rfl (hs.o rfl) rfl rfl (Nat.le_of_ble_eq_true rfl) (Nat.le_of_ble_eq_true rfl) rfl) rfl rfl ?_
        refine qev.mono h (fun v _ I3 _ h => ?_)
        obtain ⟨rfl, h⟩ := h
        refine ⟨rfl, ?_⟩
        refine e_next (pc' := 49) rfl rfl ?_
        refine e_next (pc' := 50) rfl rfl ?_
        refine e_next (pc' := 51) rfl rfl ?_
        refine e_ciV (pc' := 54) rfl (e_sV (as := [_, _]) (fun _ => rfl) (Or.inl rfl) rfl (hs.o rfl) rfl rfl (Nat.le_of_ble_eq_true rfl) (Nat.le_of_ble_eq_true rfl) rfl) rfl rfl ?_
        refine qev.mono h (fun v _ I4 _ h => ?_)
        obtain ⟨rfl, h⟩ := h
        refine ⟨rfl, ?_⟩
        refine e_iconst (pc' := 55) rfl rfl kc_m1 ?_
        exact e_iret rfl h
      · replace h := h.1 (Decidable.not_not.mp hc)
        refine e_iconst (pc' := 32) rfl rfl kc_5 ?_
        exact e_iret rfl h
    · replace h := h.2 hc
      refine e_iconst (pc' := 22) rfl rfl kc_2 ?_
      exact e_iret rfl h
theorem w13 {d : Nat} {x1 : Nat} {g : qG} {I : qI} {J : qJ} {Q : qQ} (h_x1 : qSer g x1) (h : (((nI 2) ≤ (I x1 1) → qev d 13 (12, [.ref 12, .ref x1, .int (nI 1)], [], g, I, J) Q) ∧ (¬ (nI 2) ≤ (I x1 1) → Q (some (.int (nI 5))) g I J))) : qC d 13 [.ref 12, .ref x1] g I J Q := by
  show qev d 13 (0, [.ref 12, .ref x1, qpad], [], g, I, J) Q
  refine e_next (pc' := 1) rfl rfl ?_
  refine e_getI (pc' := 4) rfl (Or.inl rfl) rfl h_x1.o ?_
  refine e_iconst (pc' := 5) rfl rfl kc_2 ?_
  refine e_icmp ((nI 2) ≤ (I x1 1)) (pc' := 8) rfl rfl e_d (fun hc => ?_) (fun hc => ?_)
  · replace h := h.1 hc
    refine e_iconst (pc' := 11) rfl rfl kc_1 ?_
    refine e_next (pc' := 12) (ls' := [_, _, _]) rfl rfl ?_
    exact h
  · replace h := h.2 hc
    refine e_iconst (pc' := 9) rfl rfl kc_5 ?_
    exact e_iret rfl h
theorem w13_12 {d : Nat} {x1 : Nat} {i2 : Int32} {g : qG} {I : qI} {J : qJ} {Q : qQ} (hs : qSh g) (h_x1 : qSer g x1) (h : (((I x1 1) ≤ i2 → Q (some (.int (-1))) g (qw I x1 1 ((I x1 1) - (nI 1))) J) ∧ (¬ (I x1 1) ≤ i2 → ∃ k1, i2 = nI k1 ∧ k1 < 24 ∧ ¬ (I 12 7) = 0 ∧ ∃ k2, (i2 - (nI 1)) = nI k2 ∧ k2 < 24 ∧ qev d 13 (12, [.ref 12, .ref x1, .int (i2 + (nI 1))], [], g, (qw I (x1 + 1) k2 (qrem ((I (x1 + 1) k1) * i2) (I 12 7))), J) Q))) : qev d 13 (12, [.ref 12, .ref x1, .int i2], [], g, I, J) Q := by
  refine e_next (pc' := 13) rfl rfl ?_
  refine e_next (pc' := 14) rfl rfl ?_
  refine e_getI (pc' := 17) rfl (Or.inl rfl) rfl h_x1.o ?_
  refine e_icmp ((I x1 1) ≤ i2) (pc' := 20) rfl rfl e_d (fun hc => ?_) (fun hc => ?_)
  · replace h := h.1 hc
    refine e_next (pc' := 48) rfl rfl ?_
    refine e_next (pc' := 49) rfl rfl ?_
    refine e_getI (pc' := 52) rfl (Or.inl rfl) rfl h_x1.o ?_
    refine e_iconst (pc' := 53) rfl rfl kc_1 ?_
    refine e_next (pc' := 54) rfl rfl ?_
    refine e_putI (pc' := 57) rfl rfl h_x1.o ?_
    refine e_iconst (pc' := 58) rfl rfl kc_m1 ?_
    exact e_iret rfl h
  · replace h := h.2 hc
    refine e_next (pc' := 21) rfl rfl ?_
    refine e_getR (pc' := 24) rfl rfl h_x1.o h_x1.a0 ?_
    refine e_next (pc' := 25) rfl rfl ?_
    refine e_iconst (pc' := 26) rfl rfl kc_1 ?_
    refine e_next (pc' := 27) rfl rfl ?_
    refine e_next (pc' := 28) rfl rfl ?_
    refine e_getR (pc' := 31) rfl rfl h_x1.o h_x1.a0 ?_
    refine e_next (pc' := 32) rfl rfl ?_
    obtain ⟨k1, hi_k1, hj_k1, h⟩ := h
    refine e_iald k1 (pc' := 33) rfl rfl h_x1.k0 hi_k1 hj_k1 (by decide) ?_
    refine e_next (pc' := 34) rfl rfl ?_
    refine e_next (pc' := 35) rfl rfl ?_
    refine e_next (pc' := 36) rfl rfl ?_
    refine e_getI (pc' := 39) rfl (Or.inl rfl) rfl (hs.o rfl) ?_
    obtain ⟨hz1, h⟩ := h
    refine e_irem (pc' := 40) rfl rfl hz1 ?_
    obtain ⟨k2, hi_k2, hj_k2, h⟩ := h
    refine e_iast k2 (pc' := 41) rfl rfl h_x1.k0 hi_k2 hj_k2 (by decide) ?_
    refine e_iinc (pc' := 44) (ls' := [_, _, _]) (v := (nI 1)) rfl rfl kc_1 rfl rfl ?_
    refine e_next (pc' := 12) rfl rfl ?_
    exact h
theorem w14 {d : Nat} {x1 : Nat} {g : qG} {I : qI} {J : qJ} {Q : qQ} (hs : qSh g) (h_x1 : qSer g x1) (h : (((qmin ((I x1 1) + (nI 1)) (I 12 8)) ≤ (I 12 7) → qev (d + 1) 14 (47, [.ref 12, .ref x1, .int (qmin ((I x1 1) + (nI 1)) (I 12 8)), .int ((qmin ((I x1 1) + (nI 1)) (I 12 8)) - (nI 1))], [], g, I, J) Q) ∧ (¬ (qmin ((I x1 1) + (nI 1)) (I 12 8)) ≤ (I 12 7) → ∃ k1, ((I 12 7) - (nI 1)) = nI k1 ∧ k1 < 24 ∧ (((I (x1 + 1) k1) = 0 → qev (d + 1) 14 (47, [.ref 12, .ref x1, .int (I 12 7), .int ((I 12 7) - (nI 1))], [], g, I, J) Q) ∧ (¬ (I (x1 + 1) k1) = 0 → Q (some (.int (nI 3))) g I J))))) : qC (d + 1) 14 [.ref 12, .ref x1] g I J Q := by
  show qev (d + 1) 14 (0, [.ref 12, .ref x1, qpad, qpad], [], g, I, J) Q
  refine e_next (pc' := 1) rfl rfl ?_
  refine e_getI (pc' := 4) rfl (Or.inl rfl) rfl h_x1.o ?_
  refine e_iconst (pc' := 5) rfl rfl kc_1 ?_
  refine e_next (pc' := 6) rfl rfl ?_
  refine e_next (pc' := 7) rfl rfl ?_
  refine e_getI (pc' := 10) rfl (Or.inl rfl) rfl (hs.o rfl) ?_
  refine e_min (pc' := 13) rfl rfl (Nat.le_of_ble_eq_true rfl) ?_
  refine e_next (pc' := 14) (ls' := [_, _, _, _]) rfl rfl ?_
  refine e_next (pc' := 15) rfl rfl ?_
  refine e_getI (pc' := 18) rfl (Or.inl rfl) rfl (hs.o rfl) ?_
  refine e_next (pc' := 19) rfl rfl ?_
  refine e_icmp ((qmin ((I x1 1) + (nI 1)) (I 12 8)) ≤ (I 12 7)) (pc' := 22) rfl rfl e_d (fun hc => ?_) (fun hc => ?_)
  · replace h := h.1 hc
    refine e_next (pc' := 44) rfl rfl ?_
    refine e_iconst (pc' := 45) rfl rfl kc_1 ?_
    refine e_next (pc' := 46) rfl rfl ?_
    refine e_next (pc' := 47) (ls' := [_, _, _, _]) rfl rfl ?_
    exact h
  · replace h := h.2 hc
    refine e_next (pc' := 23) rfl rfl ?_
    refine e_getR (pc' := 26) rfl rfl h_x1.o h_x1.a0 ?_
    refine e_next (pc' := 27) rfl rfl ?_
    refine e_getI (pc' := 30) rfl (Or.inl rfl) rfl (hs.o rfl) ?_
    refine e_iconst (pc' := 31) rfl rfl kc_1 ?_
    refine e_next (pc' := 32) rfl rfl ?_
    obtain ⟨k1, hi_k1, hj_k1, h⟩ := h
    refine e_iald k1 (pc' := 33) rfl rfl h_x1.k0 hi_k1 hj_k1 (by decide) ?_
    refine e_if ((I (x1 + 1) k1) = 0) (pc' := 36) rfl rfl e_d (fun hc => ?_) (fun hc => ?_)
    · replace h := h.1 hc
      refine e_next (pc' := 39) rfl rfl ?_
      refine e_getI (pc' := 42) rfl (Or.inl rfl) rfl (hs.o rfl) ?_
      refine e_next (pc' := 43) (ls' := [_, _, _, _]) rfl rfl ?_
      refine e_next (pc' := 44) rfl rfl ?_
      refine e_iconst (pc' := 45) rfl rfl kc_1 ?_
      refine e_next (pc' := 46) rfl rfl ?_
      refine e_next (pc' := 47) (ls' := [_, _, _, _]) rfl rfl ?_
      exact h
    · replace h := h.2 hc
      refine e_iconst (pc' := 37) rfl rfl kc_3 ?_
      exact e_iret rfl h
theorem w14_47 {d : Nat} {x1 : Nat} {i2 : Int32} {i3 : Int32} {g : qG} {I : qI} {J : qJ} {Q : qQ} (hs : qSh g) (h_x1 : qSer g x1) (h : ((i3 < (nI 1) → Q (some (.int (-1))) g (qw (qw I (x1 + 1) 0 (nI 0)) x1 1 i2) J) ∧ (¬ i3 < (nI 1) → ∃ k1, (i3 - (nI 1)) = nI k1 ∧ k1 < 24 ∧ qC d 3 [.ref 12, .int i3] g I J (fun v _ _ _ => ∃ r1, v = some (.int r1) ∧ ¬ (I 12 7) = 0 ∧ ∃ k2, i3 = nI k2 ∧ k2 < 24 ∧ qev (d + 1) 14 (47, [.ref 12, .ref x1, .int i2, .int (i3 + (-1))], [], g, (qw I (x1 + 1) k2 (qrem ((I (x1 + 1) k1) * r1) (I 12 7))), J) Q)))) : qev (d + 1) 14 (47, [.ref 12, .ref x1, .int i2, .int i3], [], g, I, J) Q := by
  refine e_next (pc' := 48) rfl rfl ?_
  refine e_iconst (pc' := 49) rfl rfl kc_1 ?_
  refine e_icmp (i3 < (nI 1)) (pc' := 52) rfl rfl e_d (fun hc => ?_) (fun hc => ?_)
  · replace h := h.1 hc
    refine e_next (pc' := 84) rfl rfl ?_
    refine e_getR (pc' := 87) rfl rfl h_x1.o h_x1.a0 ?_
    refine e_iconst (pc' := 88) rfl rfl kc_0 ?_
    refine e_iconst (pc' := 89) rfl rfl kc_0 ?_
    refine e_iast 0 (pc' := 90) rfl rfl h_x1.k0 rfl (by decide) (by decide) ?_
    refine e_next (pc' := 91) rfl rfl ?_
    refine e_next (pc' := 92) rfl rfl ?_
    refine e_putI (pc' := 95) rfl rfl h_x1.o ?_
    refine e_iconst (pc' := 96) rfl rfl kc_m1 ?_
    exact e_iret rfl h
  · replace h := h.2 hc
    refine e_next (pc' := 53) rfl rfl ?_
    refine e_getR (pc' := 56) rfl rfl h_x1.o h_x1.a0 ?_
    refine e_next (pc' := 57) rfl rfl ?_
    refine e_next (pc' := 58) rfl rfl ?_
    refine e_getR (pc' := 61) rfl rfl h_x1.o h_x1.a0 ?_
    refine e_next (pc' := 62) rfl rfl ?_
    refine e_iconst (pc' := 63) rfl rfl kc_1 ?_
    refine e_next (pc' := 64) rfl rfl ?_
    obtain ⟨k1, hi_k1, hj_k1, h⟩ := h
    refine e_iald k1 (pc' := 65) rfl rfl h_x1.k0 hi_k1 hj_k1 (by decide) ?_
    refine e_next (pc' := 66) rfl rfl ?_
    refine e_next (pc' := 67) rfl rfl ?_
    refine e_cpI (pc' := 70) rfl (e_sV (as := [_]) (fun _ => rfl) (Or.inl rfl) rfl (hs.o rfl) rfl rfl (Nat.le_of_ble_eq_true rfl) (Nat.le_of_ble_eq_true rfl) rfl) rfl rfl rfl ?_
    refine qev.mono h (fun v _ _ _ h => ?_)
    obtain ⟨r1, rfl, h⟩ := h
    refine ⟨r1, rfl, ?_⟩
    refine e_next (pc' := 71) rfl rfl ?_
    refine e_next (pc' := 72) rfl rfl ?_
    refine e_getI (pc' := 75) rfl (Or.inl rfl) rfl (hs.o rfl) ?_
    obtain ⟨hz1, h⟩ := h
    refine e_irem (pc' := 76) rfl rfl hz1 ?_
    obtain ⟨k2, hi_k2, hj_k2, h⟩ := h
    refine e_iast k2 (pc' := 77) rfl rfl h_x1.k0 hi_k2 hj_k2 (by decide) ?_
    refine e_iinc (pc' := 80) (ls' := [_, _, _, _]) (v := (-1)) rfl rfl kc_m1 rfl rfl ?_
    refine e_next (pc' := 47) rfl rfl ?_
    exact h
theorem w15 {d : Nat} {x1 : Nat} {g : qG} {I : qI} {J : qJ} {Q : qQ} (hs : qSh g) (h_x1 : qSer g x1) (h : (((I (x1 + 1) 0) = (nI 1) → (((I x1 1) = (nI 1) → Q (some (.int (-1))) g (qw I (x1 + 1) 0 (nI 0)) J) ∧ (¬ (I x1 1) = (nI 1) → qC d 74 [.ref 20, .ref x1] g I J (fun v _ I1 _ => v = none ∧ qC d 11 [.ref 12, .ref 20] g I1 J (fun v _ I2 _ => v = none ∧ qC d 13 [.ref 12, .ref x1] g I2 J (fun v _ I3 _ => ∃ r1, v = some (.int r1) ∧ qC d 9 [.ref 12, .ref x1, .ref 20] g I3 J (fun v _ I4 _ => v = none ∧ qC d 14 [.ref 12, .ref x1] g I4 J (fun v _ I5 _ => ∃ r2, v = some (.int r2) ∧ Q (some (.int r2)) g I5 J)))))))) ∧ (¬ (I (x1 + 1) 0) = (nI 1) → Q (some (.int (nI 2))) g I J))) : qC (d + 1) 15 [.ref 12, .ref x1] g I J Q := by
  show qev (d + 1) 15 (0, [.ref 12, .ref x1], [], g, I, J) Q
  refine e_next (pc' := 1) rfl rfl ?_
  refine e_getR (pc' := 4) rfl rfl h_x1.o h_x1.a0 ?_
  refine e_iconst (pc' := 5) rfl rfl kc_0 ?_
  refine e_iald 0 (pc' := 6) rfl rfl h_x1.k0 rfl (by decide) (by decide) ?_
  refine e_iconst (pc' := 7) rfl rfl kc_1 ?_
  refine e_icmp ((I (x1 + 1) 0) = (nI 1)) (pc' := 10) rfl rfl e_d (fun hc => ?_) (fun hc => ?_)
  · replace h := h.1 hc
    refine e_next (pc' := 13) rfl rfl ?_
    refine e_getI (pc' := 16) rfl (Or.inl rfl) rfl h_x1.o ?_
    refine e_iconst (pc' := 17) rfl rfl kc_1 ?_
    refine e_icmp (¬ (I x1 1) = (nI 1)) (pc' := 20) rfl rfl e_d (fun hc => ?_) (fun hc => ?_)
    · replace h := h.2 hc
      refine e_next (pc' := 30) rfl rfl ?_
      refine e_getR (pc' := 33) rfl rfl (hs.o rfl) (hs.a rfl) ?_
      refine e_next (pc' := 34) rfl rfl ?_
      refine e_ciV (pc' := 37) rfl (e_sV (as := [_]) (fun _ => rfl) (Or.inl rfl) rfl (hs.o rfl) rfl rfl (Nat.le_of_ble_eq_true rfl) (Nat.le_of_ble_eq_true rfl) rfl) rfl rfl ?_
      refine qev.mono h (fun v _ I1 _ h => ?_)
      obtain ⟨rfl, h⟩ := h
      refine ⟨rfl, ?_⟩
      refine e_next (pc' := 38) rfl rfl ?_
      refine e_next (pc' := 39) rfl rfl ?_
      refine e_getR (pc' := 42) rfl rfl (hs.o rfl) (hs.a rfl) ?_
      refine e_ciV (pc' := 45) rfl (e_sV (as := [_]) (fun _ => rfl) (Or.inl rfl) rfl (hs.o rfl) rfl rfl (Nat.le_of_ble_eq_true rfl) (Nat.le_of_ble_eq_true rfl) rfl) rfl rfl ?_
      refine qev.mono h (fun v _ I2 _ h => ?_)
      obtain ⟨rfl, h⟩ := h
      refine ⟨rfl, ?_⟩
      refine e_next (pc' := 46) rfl rfl ?_
      refine e_next (pc' := 47) rfl rfl ?_
      refine e_ciI (pc' := 50) rfl (e_sV (as := [_]) (fun _ => rfl) (Or.inl rfl) rfl (hs.o rfl) rfl rfl (Nat.le_of_ble_eq_true rfl) (Nat.le_of_ble_eq_true rfl) rfl) rfl rfl ?_
      refine qev.mono h (fun v _ I3 _ h => ?_)
      obtain ⟨r1, rfl, h⟩ := h
      refine ⟨r1, rfl, ?_⟩
      refine e_next (pc' := 51) rfl rfl ?_
      refine e_next (pc' := 52) rfl rfl ?_
      refine e_next (pc' := 53) rfl rfl ?_
      refine e_next (pc' := 54) rfl rfl ?_
      refine e_getR (pc' := 57) rfl rfl (hs.o rfl) (hs.a rfl) ?_
      refine e_ciV (pc' := 60) rfl (e_sV (as := [_, _]) (fun _ => rfl) (Or.inl rfl) rfl (hs.o rfl) rfl rfl (Nat.le_of_ble_eq_true rfl) (Nat.le_of_ble_eq_true rfl) rfl) rfl rfl ?_
      refine qev.mono h (fun v _ I4 _ h => ?_)
      obtain ⟨rfl, h⟩ := h
      refine ⟨rfl, ?_⟩
      refine e_next (pc' := 61) rfl rfl ?_
      refine e_next (pc' := 62) rfl rfl ?_
      refine e_ciI (pc' := 65) rfl (e_sV (as := [_]) (fun _ => rfl) (Or.inl rfl) rfl (hs.o rfl) rfl rfl (Nat.le_of_ble_eq_true rfl) (Nat.le_of_ble_eq_true rfl) rfl) rfl rfl ?_
      refine qev.mono h (fun v _ I5 _ h => ?_)
      obtain ⟨r2, rfl, h⟩ := h
      refine ⟨r2, rfl, ?_⟩
      exact e_iret rfl h
    · replace h := h.1 (Decidable.not_not.mp hc)
      refine e_next (pc' := 21) rfl rfl ?_
      refine e_getR (pc' := 24) rfl rfl h_x1.o h_x1.a0 ?_
      refine e_iconst (pc' := 25) rfl rfl kc_0 ?_
      refine e_iconst (pc' := 26) rfl rfl kc_0 ?_
      refine e_iast 0 (pc' := 27) rfl rfl h_x1.k0 rfl (by decide) (by decide) ?_
      refine e_iconst (pc' := 28) rfl rfl kc_m1 ?_
      exact e_iret rfl h
  · replace h := h.2 hc
    refine e_iconst (pc' := 11) rfl rfl kc_2 ?_
    exact e_iret rfl h
theorem w16 {d : Nat} {x1 : Nat} {g : qG} {I : qI} {J : qJ} {Q : qQ} (hs : qSh g) (h_x1 : qSer g x1) (h : (((I (x1 + 1) 0) = 0 → qC d 75 [.ref x1, .int (I 12 7)] g I J (fun v _ I1 _ => v = none ∧ qev (d + 1) 16 (28, [.ref 12, .ref x1, .int (nI 1), qpad, qpad], [], g, (qw I1 13 0 (nI 1)), J) Q)) ∧ (¬ (I (x1 + 1) 0) = 0 → Q (some (.int (nI 2))) g I J))) : qC (d + 1) 16 [.ref 12, .ref x1] g I J Q := by
  show qev (d + 1) 16 (0, [.ref 12, .ref x1, qpad, qpad, qpad], [], g, I, J) Q
  refine e_next (pc' := 1) rfl rfl ?_
  refine e_getR (pc' := 4) rfl rfl h_x1.o h_x1.a0 ?_
  refine e_iconst (pc' := 5) rfl rfl kc_0 ?_
  refine e_iald 0 (pc' := 6) rfl rfl h_x1.k0 rfl (by decide) (by decide) ?_
  refine e_if ((I (x1 + 1) 0) = 0) (pc' := 9) rfl rfl e_d (fun hc => ?_) (fun hc => ?_)
  · replace h := h.1 hc
    refine e_next (pc' := 12) rfl rfl ?_
    refine e_next (pc' := 13) rfl rfl ?_
    refine e_getI (pc' := 16) rfl (Or.inl rfl) rfl (hs.o rfl) ?_
    refine e_ciV (pc' := 19) rfl (e_sV (as := [_]) (fun _ => rfl) (Or.inl rfl) rfl h_x1.o rfl rfl (Nat.le_of_ble_eq_true rfl) (Nat.le_of_ble_eq_true rfl) rfl) rfl rfl ?_
    refine qev.mono h (fun v _ I1 _ h => ?_)
    obtain ⟨rfl, h⟩ := h
    refine ⟨rfl, ?_⟩
    refine e_next (pc' := 20) rfl rfl ?_
    refine e_getR (pc' := 23) rfl rfl (hs.o rfl) (hs.a rfl) ?_
    refine e_iconst (pc' := 24) rfl rfl kc_0 ?_
    refine e_iconst (pc' := 25) rfl rfl kc_1 ?_
    refine e_iast 0 (pc' := 26) rfl rfl (hs.k rfl) rfl (by decide) (by decide) ?_
    refine e_iconst (pc' := 27) rfl rfl kc_1 ?_
    refine e_next (pc' := 28) (ls' := [_, _, _, _, _]) rfl rfl ?_
    exact h
  · replace h := h.2 hc
    refine e_iconst (pc' := 10) rfl rfl kc_2 ?_
    exact e_iret rfl h
theorem w16_28 {d : Nat} {x1 : Nat} {i2 : Int32} {w3 : Value} {w4 : Value} {g : qG} {I : qI} {J : qJ} {Q : qQ} (hs : qSh g) (h_x1 : qSer g x1) (h : (((I x1 1) ≤ i2 → ∃ s1 t1 n1 : Nat, (nI 0) = nI s1 ∧ (nI 0) = nI t1 ∧ (I x1 1) = nI n1 ∧ s1 + n1 ≤ 24 ∧ t1 + n1 ≤ 24 ∧ Q (some (.int (-1))) g (va_up I (x1 + 1) (va_cpy (I 13) (I (x1 + 1)) s1 t1 n1)) J) ∧ (¬ (I x1 1) ≤ i2 → qev (d + 1) 16 (41, [.ref 12, .ref x1, .int i2, .int (nI 0), .int (nI 1)], [], g, I, J) Q))) : qev (d + 1) 16 (28, [.ref 12, .ref x1, .int i2, w3, w4], [], g, I, J) Q := by
  refine e_next (pc' := 29) rfl rfl ?_
  refine e_next (pc' := 30) rfl rfl ?_
  refine e_getI (pc' := 33) rfl (Or.inl rfl) rfl h_x1.o ?_
  refine e_icmp ((I x1 1) ≤ i2) (pc' := 36) rfl rfl e_d (fun hc => ?_) (fun hc => ?_)
  · replace h := h.1 hc
    refine e_next (pc' := 111) rfl rfl ?_
    refine e_getR (pc' := 114) rfl rfl (hs.o rfl) (hs.a rfl) ?_
    refine e_iconst (pc' := 115) rfl rfl kc_0 ?_
    refine e_next (pc' := 116) rfl rfl ?_
    refine e_getR (pc' := 119) rfl rfl h_x1.o h_x1.a0 ?_
    refine e_iconst (pc' := 120) rfl rfl kc_0 ?_
    refine e_next (pc' := 121) rfl rfl ?_
    refine e_getI (pc' := 124) rfl (Or.inl rfl) rfl h_x1.o ?_
    obtain ⟨s1, t1, n1, hs_s1, hd_s1, hn_s1, h1_s1, h2_s1, h⟩ := h
    refine e_copy s1 t1 n1 (pc' := 127) rfl rfl (Nat.le_of_ble_eq_true rfl) (hs.k rfl) h_x1.k0 hs_s1 hd_s1 hn_s1 h1_s1 h2_s1 (by decide) (by decide) ?_
    refine e_iconst (pc' := 128) rfl rfl kc_m1 ?_
    exact e_iret rfl h
  · replace h := h.2 hc
    refine e_iconst (pc' := 37) rfl rfl kc_0 ?_
    refine e_next (pc' := 38) (ls' := [_, _, _, _, _]) rfl rfl ?_
    refine e_iconst (pc' := 39) rfl rfl kc_1 ?_
    refine e_next (pc' := 41) (ls' := [_, _, _, _, _]) rfl rfl ?_
    exact h
theorem w16_41 {d : Nat} {x1 : Nat} {i2 : Int32} {i3 : Int32} {i4 : Int32} {g : qG} {I : qI} {J : qJ} {Q : qQ} (hs : qSh g) (h_x1 : qSer g x1) (h : ((i2 < i4 → ¬ (I 12 7) = 0 ∧ qC d 3 [.ref 12, .int i2] g I J (fun v _ _ _ => ∃ r1, v = some (.int r1) ∧ ¬ (I 12 7) = 0 ∧ ∃ k1, i2 = nI k1 ∧ k1 < 24 ∧ qev (d + 1) 16 (28, [.ref 12, .ref x1, .int (i2 + (nI 1)), .int i3, .int i4], [], g, (qw I 13 k1 (qrem ((qrem i3 (I 12 7)) * r1) (I 12 7))), J) Q)) ∧ (¬ i2 < i4 → ∃ k2, i4 = nI k2 ∧ k2 < 24 ∧ ¬ (I 12 7) = 0 ∧ ∃ k3, (i2 - i4) = nI k3 ∧ k3 < 24 ∧ qev (d + 1) 16 (41, [.ref 12, .ref x1, .int i2, .int (i3 + ((qrem (i4 * (I (x1 + 1) k2)) (I 12 7)) * (I 13 k3))), .int (i4 + (nI 1))], [], g, I, J) Q))) : qev (d + 1) 16 (41, [.ref 12, .ref x1, .int i2, .int i3, .int i4], [], g, I, J) Q := by
  refine e_next (pc' := 43) rfl rfl ?_
  refine e_next (pc' := 44) rfl rfl ?_
  refine e_icmp (i2 < i4) (pc' := 47) rfl rfl e_d (fun hc => ?_) (fun hc => ?_)
  · replace h := h.1 hc
    refine e_next (pc' := 82) rfl rfl ?_
    refine e_getR (pc' := 85) rfl rfl (hs.o rfl) (hs.a rfl) ?_
    refine e_next (pc' := 86) rfl rfl ?_
    refine e_next (pc' := 87) rfl rfl ?_
    refine e_next (pc' := 88) rfl rfl ?_
    refine e_getI (pc' := 91) rfl (Or.inl rfl) rfl (hs.o rfl) ?_
    obtain ⟨hz1, h⟩ := h
    refine e_irem (pc' := 92) rfl rfl hz1 ?_
    refine e_next (pc' := 93) rfl rfl ?_
    refine e_next (pc' := 94) rfl rfl ?_
    refine e_cpI (pc' := 97) rfl (e_sV (as := [_]) (fun _ => rfl) (Or.inl rfl) rfl (hs.o rfl) rfl rfl (Nat.le_of_ble_eq_true rfl) (Nat.le_of_ble_eq_true rfl) rfl) rfl rfl rfl ?_
    refine qev.mono h (fun v _ _ _ h => ?_)
    obtain ⟨r1, rfl, h⟩ := h
    refine ⟨r1, rfl, ?_⟩
    refine e_next (pc' := 98) rfl rfl ?_
    refine e_next (pc' := 99) rfl rfl ?_
    refine e_getI (pc' := 102) rfl (Or.inl rfl) rfl (hs.o rfl) ?_
    obtain ⟨hz2, h⟩ := h
    refine e_irem (pc' := 103) rfl rfl hz2 ?_
    obtain ⟨k1, hi_k1, hj_k1, h⟩ := h
    refine e_iast k1 (pc' := 104) rfl rfl (hs.k rfl) hi_k1 hj_k1 (by decide) ?_
    refine e_iinc (pc' := 107) (ls' := [_, _, _, _, _]) (v := (nI 1)) rfl rfl kc_1 rfl rfl ?_
    refine e_next (pc' := 28) rfl rfl ?_
    exact h
  · replace h := h.2 hc
    refine e_next (pc' := 48) rfl rfl ?_
    refine e_next (pc' := 50) rfl rfl ?_
    refine e_next (pc' := 51) rfl rfl ?_
    refine e_getR (pc' := 54) rfl rfl h_x1.o h_x1.a0 ?_
    refine e_next (pc' := 56) rfl rfl ?_
    obtain ⟨k2, hi_k2, hj_k2, h⟩ := h
    refine e_iald k2 (pc' := 57) rfl rfl h_x1.k0 hi_k2 hj_k2 (by decide) ?_
    refine e_next (pc' := 58) rfl rfl ?_
    refine e_next (pc' := 59) rfl rfl ?_
    refine e_getI (pc' := 62) rfl (Or.inl rfl) rfl (hs.o rfl) ?_
    obtain ⟨hz3, h⟩ := h
    refine e_irem (pc' := 63) rfl rfl hz3 ?_
    refine e_next (pc' := 64) rfl rfl ?_
    refine e_getR (pc' := 67) rfl rfl (hs.o rfl) (hs.a rfl) ?_
    refine e_next (pc' := 68) rfl rfl ?_
    refine e_next (pc' := 70) rfl rfl ?_
    refine e_next (pc' := 71) rfl rfl ?_
    obtain ⟨k3, hi_k3, hj_k3, h⟩ := h
    refine e_iald k3 (pc' := 72) rfl rfl (hs.k rfl) hi_k3 hj_k3 (by decide) ?_
    refine e_next (pc' := 73) rfl rfl ?_
    refine e_next (pc' := 74) rfl rfl ?_
    refine e_next (pc' := 75) (ls' := [_, _, _, _, _]) rfl rfl ?_
    refine e_iinc (pc' := 78) (ls' := [_, _, _, _, _]) (v := (nI 1)) rfl rfl kc_1 rfl rfl ?_
    refine e_next (pc' := 41) rfl rfl ?_
    exact h
theorem w17 {d : Nat} {x1 : Nat} {g : qG} {I : qI} {J : qJ} {Q : qQ} (hs : qSh g) (h_x1 : qSer g x1) (h : (((I x1 1) < (nI 2) → Q (some (.int (nI 2))) g I J) ∧ (¬ (I x1 1) < (nI 2) → (((I (x1 + 1) 0) = 0 → (((I (x1 + 1) 1) = 0 → Q (some (.int (nI 2))) g I J) ∧ (¬ (I (x1 + 1) 1) = 0 → qC d 268 [.ref 13, .int (nI 0)] g I J (fun v _ I1 _ => v = none ∧ qC d 3 [.ref 12, .int ((qw I1 13 1 (nI 1)) (x1 + 1) 1)] g (qw I1 13 1 (nI 1)) J (fun v _ _ _ => ∃ r1, v = some (.int r1) ∧ qC d 5 [.ref 12, .ref 14, .int (nI 1)] g (qw (qw I1 13 1 (nI 1)) 19 0 (nI 0)) J (fun v _ I2 _ => v = none ∧ qev (d + 1) 17 (78, [.ref 12, .ref x1, .int r1, .int (nI 1), .int (nI 1), qpad, qpad], [], g, I2, J) Q)))))) ∧ (¬ (I (x1 + 1) 0) = 0 → Q (some (.int (nI 2))) g I J))))) : qC (d + 1) 17 [.ref 12, .ref x1] g I J Q := by
  show qev (d + 1) 17 (0, [.ref 12, .ref x1, qpad, qpad, qpad, qpad, qpad], [], g, I, J) Q
  refine e_next (pc' := 1) rfl rfl ?_
  refine e_getI (pc' := 4) rfl (Or.inl rfl) rfl h_x1.o ?_
  refine e_iconst (pc' := 5) rfl rfl kc_2 ?_
  refine e_icmp ((I x1 1) < (nI 2)) (pc' := 8) rfl rfl e_d (fun hc => ?_) (fun hc => ?_)
  · replace h := h.1 hc
    refine e_iconst (pc' := 27) rfl rfl kc_2 ?_
    exact e_iret rfl h
  · replace h := h.2 hc
    refine e_next (pc' := 9) rfl rfl ?_
    refine e_getR (pc' := 12) rfl rfl h_x1.o h_x1.a0 ?_
    refine e_iconst (pc' := 13) rfl rfl kc_0 ?_
    refine e_iald 0 (pc' := 14) rfl rfl h_x1.k0 rfl (by decide) (by decide) ?_
    refine e_if (¬ (I (x1 + 1) 0) = 0) (pc' := 17) rfl rfl e_d (fun hc => ?_) (fun hc => ?_)
    · replace h := h.2 hc
      refine e_iconst (pc' := 27) rfl rfl kc_2 ?_
      exact e_iret rfl h
    · replace h := h.1 (Decidable.not_not.mp hc)
      refine e_next (pc' := 18) rfl rfl ?_
      refine e_getR (pc' := 21) rfl rfl h_x1.o h_x1.a0 ?_
      refine e_iconst (pc' := 22) rfl rfl kc_1 ?_
      refine e_iald 1 (pc' := 23) rfl rfl h_x1.k0 rfl (by decide) (by decide) ?_
      refine e_if (¬ (I (x1 + 1) 1) = 0) (pc' := 26) rfl rfl e_d (fun hc => ?_) (fun hc => ?_)
      · replace h := h.2 hc
        refine e_next (pc' := 29) rfl rfl ?_
        refine e_getR (pc' := 32) rfl rfl (hs.o rfl) (hs.a rfl) ?_
        refine e_iconst (pc' := 33) rfl rfl kc_0 ?_
        refine e_ciV (pc' := 36) rfl (e_sS (as := [_, _]) (fun _ => rfl) rfl (Nat.le_of_ble_eq_true rfl) rfl rfl (Nat.le_of_ble_eq_true rfl) (Nat.le_of_ble_eq_true rfl) rfl) rfl rfl ?_
        refine qev.mono h (fun v _ I1 _ h => ?_)
        obtain ⟨rfl, h⟩ := h
        refine ⟨rfl, ?_⟩
        refine e_next (pc' := 37) rfl rfl ?_
        refine e_getR (pc' := 40) rfl rfl (hs.o rfl) (hs.a rfl) ?_
        refine e_iconst (pc' := 41) rfl rfl kc_1 ?_
        refine e_iconst (pc' := 42) rfl rfl kc_1 ?_
        refine e_iast 1 (pc' := 43) rfl rfl (hs.k rfl) rfl (by decide) (by decide) ?_
        refine e_next (pc' := 44) rfl rfl ?_
        refine e_next (pc' := 45) rfl rfl ?_
        refine e_getR (pc' := 48) rfl rfl h_x1.o h_x1.a0 ?_
        refine e_iconst (pc' := 49) rfl rfl kc_1 ?_
        refine e_iald 1 (pc' := 50) rfl rfl h_x1.k0 rfl (by decide) (by decide) ?_
        refine e_cpI (pc' := 53) rfl (e_sV (as := [_]) (fun _ => rfl) (Or.inl rfl) rfl (hs.o rfl) rfl rfl (Nat.le_of_ble_eq_true rfl) (Nat.le_of_ble_eq_true rfl) rfl) rfl rfl rfl ?_
        refine qev.mono h (fun v _ _ _ h => ?_)
        obtain ⟨r1, rfl, h⟩ := h
        refine ⟨r1, rfl, ?_⟩
        refine e_next (pc' := 54) (ls' := [_, _, _, _, _, _, _]) rfl rfl ?_
        refine e_iconst (pc' := 55) rfl rfl kc_1 ?_
        refine e_next (pc' := 56) (ls' := [_, _, _, _, _, _, _]) rfl rfl ?_
        refine e_next (pc' := 57) rfl rfl ?_
        refine e_getR (pc' := 60) rfl rfl (hs.o rfl) (hs.a rfl) ?_
        refine e_getR (pc' := 63) rfl rfl (hs.o rfl) (hs.a rfl) ?_
        refine e_iconst (pc' := 64) rfl rfl kc_0 ?_
        refine e_iconst (pc' := 65) rfl rfl kc_0 ?_
        refine e_iast 0 (pc' := 66) rfl rfl (hs.k rfl) rfl (by decide) (by decide) ?_
        refine e_next (pc' := 67) rfl rfl ?_
        refine e_next (pc' := 68) rfl rfl ?_
        refine e_getR (pc' := 71) rfl rfl (hs.o rfl) (hs.a rfl) ?_
        refine e_iconst (pc' := 72) rfl rfl kc_1 ?_
        refine e_ciV (pc' := 75) rfl (e_sV (as := [_, _]) (fun _ => rfl) (Or.inl rfl) rfl (hs.o rfl) rfl rfl (Nat.le_of_ble_eq_true rfl) (Nat.le_of_ble_eq_true rfl) rfl) rfl rfl ?_
        refine qev.mono h (fun v _ I2 _ h => ?_)
        obtain ⟨rfl, h⟩ := h
        refine ⟨rfl, ?_⟩
        refine e_iconst (pc' := 76) rfl rfl kc_1 ?_
        refine e_next (pc' := 78) (ls' := [_, _, _, _, _, _, _]) rfl rfl ?_
        exact h
      · replace h := h.1 (Decidable.not_not.mp hc)
        refine e_iconst (pc' := 27) rfl rfl kc_2 ?_
        exact e_iret rfl h
theorem w17_78 {d : Nat} {x1 : Nat} {i2 : Int32} {i3 : Int32} {i4 : Int32} {w5 : Value} {w6 : Value} {g : qG} {I : qI} {J : qJ} {Q : qQ} (hs : qSh g) (h_x1 : qSer g x1) (h : (((I x1 1) ≤ i4 → qC d 74 [.ref x1, .ref 18] g (qw I 18 1 (I x1 1)) J (fun v _ I1 _ => v = none ∧ Q (some (.int (-1))) g I1 J)) ∧ (¬ (I x1 1) ≤ i4 → qC d 9 [.ref 12, .ref 14, .ref x1] g I J (fun v _ I2 _ => v = none ∧ qC d 75 [.ref 14, .int (I2 x1 1)] g I2 J (fun v _ I3 _ => v = none ∧ ¬ (I3 12 7) = 0 ∧ ∃ k1, i4 = nI k1 ∧ k1 < 24 ∧ ¬ (I3 12 7) = 0 ∧ ∃ k2, i4 = nI k2 ∧ k2 < 24 ∧ qev (d + 1) 17 (148, [.ref 12, .ref x1, .int i2, .int (qrem (i3 * i2) (I3 12 7)), .int i4, .int (qrem ((I3 13 k1) * (qrem (i3 * i2) (I3 12 7))) (I3 12 7)), .int i4], [], g, (qw I3 19 k2 (qrem ((I3 13 k1) * (qrem (i3 * i2) (I3 12 7))) (I3 12 7))), J) Q))))) : qev (d + 1) 17 (78, [.ref 12, .ref x1, .int i2, .int i3, .int i4, w5, w6], [], g, I, J) Q := by
  refine e_next (pc' := 80) rfl rfl ?_
  refine e_next (pc' := 81) rfl rfl ?_
  refine e_getI (pc' := 84) rfl (Or.inl rfl) rfl h_x1.o ?_
  refine e_icmp ((I x1 1) ≤ i4) (pc' := 87) rfl rfl e_d (fun hc => ?_) (fun hc => ?_)
  · replace h := h.1 hc
    refine e_next (pc' := 211) rfl rfl ?_
    refine e_getR (pc' := 214) rfl rfl (hs.o rfl) (hs.a rfl) ?_
    refine e_next (pc' := 215) rfl rfl ?_
    refine e_getI (pc' := 218) rfl (Or.inl rfl) rfl h_x1.o ?_
    refine e_putI (pc' := 221) rfl rfl (hs.o rfl) ?_
    refine e_next (pc' := 222) rfl rfl ?_
    refine e_next (pc' := 223) rfl rfl ?_
    refine e_getR (pc' := 226) rfl rfl (hs.o rfl) (hs.a rfl) ?_
    refine e_ciV (pc' := 229) rfl (e_sV (as := [_]) (fun _ => rfl) (Or.inl rfl) rfl h_x1.o rfl rfl (Nat.le_of_ble_eq_true rfl) (Nat.le_of_ble_eq_true rfl) rfl) rfl rfl ?_
    refine qev.mono h (fun v _ I1 _ h => ?_)
    obtain ⟨rfl, h⟩ := h
    refine ⟨rfl, ?_⟩
    refine e_iconst (pc' := 230) rfl rfl kc_m1 ?_
    exact e_iret rfl h
  · replace h := h.2 hc
    refine e_next (pc' := 88) rfl rfl ?_
    refine e_next (pc' := 89) rfl rfl ?_
    refine e_getR (pc' := 92) rfl rfl (hs.o rfl) (hs.a rfl) ?_
    refine e_next (pc' := 93) rfl rfl ?_
    refine e_ciV (pc' := 96) rfl (e_sV (as := [_, _]) (fun _ => rfl) (Or.inl rfl) rfl (hs.o rfl) rfl rfl (Nat.le_of_ble_eq_true rfl) (Nat.le_of_ble_eq_true rfl) rfl) rfl rfl ?_
    refine qev.mono h (fun v _ I2 _ h => ?_)
    obtain ⟨rfl, h⟩ := h
    refine ⟨rfl, ?_⟩
    refine e_next (pc' := 97) rfl rfl ?_
    refine e_getR (pc' := 100) rfl rfl (hs.o rfl) (hs.a rfl) ?_
    refine e_next (pc' := 101) rfl rfl ?_
    refine e_getI (pc' := 104) rfl (Or.inl rfl) rfl h_x1.o ?_
    refine e_ciV (pc' := 107) rfl (e_sV (as := [_]) (fun _ => rfl) (Or.inl rfl) rfl (hs.o rfl) rfl rfl (Nat.le_of_ble_eq_true rfl) (Nat.le_of_ble_eq_true rfl) rfl) rfl rfl ?_
    refine qev.mono h (fun v _ I3 _ h => ?_)
    obtain ⟨rfl, h⟩ := h
    refine ⟨rfl, ?_⟩
    refine e_next (pc' := 108) rfl rfl ?_
    refine e_next (pc' := 109) rfl rfl ?_
    refine e_next (pc' := 110) rfl rfl ?_
    refine e_next (pc' := 111) rfl rfl ?_
    refine e_getI (pc' := 114) rfl (Or.inl rfl) rfl (hs.o rfl) ?_
    obtain ⟨hz1, h⟩ := h
    refine e_irem (pc' := 115) rfl rfl hz1 ?_
    refine e_next (pc' := 116) (ls' := [_, _, _, _, _, _, _]) rfl rfl ?_
    refine e_next (pc' := 117) rfl rfl ?_
    refine e_getR (pc' := 120) rfl rfl (hs.o rfl) (hs.a rfl) ?_
    refine e_next (pc' := 122) rfl rfl ?_
    obtain ⟨k1, hi_k1, hj_k1, h⟩ := h
    refine e_iald k1 (pc' := 123) rfl rfl (hs.k rfl) hi_k1 hj_k1 (by decide) ?_
    refine e_next (pc' := 124) rfl rfl ?_
    refine e_next (pc' := 125) rfl rfl ?_
    refine e_next (pc' := 126) rfl rfl ?_
    refine e_getI (pc' := 129) rfl (Or.inl rfl) rfl (hs.o rfl) ?_
    obtain ⟨hz2, h⟩ := h
    refine e_irem (pc' := 130) rfl rfl hz2 ?_
    refine e_next (pc' := 132) (ls' := [_, _, _, _, _, _, _]) rfl rfl ?_
    refine e_next (pc' := 133) rfl rfl ?_
    refine e_getR (pc' := 136) rfl rfl (hs.o rfl) (hs.a rfl) ?_
    refine e_getR (pc' := 139) rfl rfl (hs.o rfl) (hs.a rfl) ?_
    refine e_next (pc' := 141) rfl rfl ?_
    refine e_next (pc' := 143) rfl rfl ?_
    obtain ⟨k2, hi_k2, hj_k2, h⟩ := h
    refine e_iast k2 (pc' := 144) rfl rfl (hs.k rfl) hi_k2 hj_k2 (by decide) ?_
    refine e_next (pc' := 146) rfl rfl ?_
    refine e_next (pc' := 148) (ls' := [_, _, _, _, _, _, _]) rfl rfl ?_
    exact h
theorem w17_148 {d : Nat} {x1 : Nat} {i2 : Int32} {i3 : Int32} {i4 : Int32} {i5 : Int32} {i6 : Int32} {g : qG} {I : qI} {J : qJ} {Q : qQ} (hs : qSh g) (h_x1 : qSer g x1) (h : (((I 14 1) ≤ i6 → qev (d + 1) 17 (78, [.ref 12, .ref x1, .int i2, .int i3, .int (i4 + (nI 1)), .int i5, .int i6], [], g, I, J) Q) ∧ (¬ (I 14 1) ≤ i6 → ∃ k1, i6 = nI k1 ∧ k1 < 24 ∧ ∃ k2, i6 = nI k2 ∧ k2 < 24 ∧ ¬ (I 12 7) = 0 ∧ ∃ k3, i6 = nI k3 ∧ k3 < 24 ∧ qev (d + 1) 17 (148, [.ref 12, .ref x1, .int i2, .int i3, .int i4, .int i5, .int (i6 + (nI 1))], [], g, (qw I 13 k3 (qrem ((I 13 k1) + (((I 12 7) - i5) * (I 15 k2))) (I 12 7))), J) Q))) : qev (d + 1) 17 (148, [.ref 12, .ref x1, .int i2, .int i3, .int i4, .int i5, .int i6], [], g, I, J) Q := by
  refine e_next (pc' := 150) rfl rfl ?_
  refine e_next (pc' := 151) rfl rfl ?_
  refine e_getR (pc' := 154) rfl rfl (hs.o rfl) (hs.a rfl) ?_
  refine e_getI (pc' := 157) rfl (Or.inl rfl) rfl (hs.o rfl) ?_
  refine e_icmp ((I 14 1) ≤ i6) (pc' := 160) rfl rfl e_d (fun hc => ?_) (fun hc => ?_)
  · replace h := h.1 hc
    refine e_iinc (pc' := 207) (ls' := [_, _, _, _, _, _, _]) (v := (nI 1)) rfl rfl kc_1 rfl rfl ?_
    refine e_next (pc' := 78) rfl rfl ?_
    exact h
  · replace h := h.2 hc
    refine e_next (pc' := 161) rfl rfl ?_
    refine e_getR (pc' := 164) rfl rfl (hs.o rfl) (hs.a rfl) ?_
    refine e_next (pc' := 166) rfl rfl ?_
    refine e_next (pc' := 167) rfl rfl ?_
    refine e_getR (pc' := 170) rfl rfl (hs.o rfl) (hs.a rfl) ?_
    refine e_next (pc' := 172) rfl rfl ?_
    obtain ⟨k1, hi_k1, hj_k1, h⟩ := h
    refine e_iald k1 (pc' := 173) rfl rfl (hs.k rfl) hi_k1 hj_k1 (by decide) ?_
    refine e_next (pc' := 174) rfl rfl ?_
    refine e_getI (pc' := 177) rfl (Or.inl rfl) rfl (hs.o rfl) ?_
    refine e_next (pc' := 179) rfl rfl ?_
    refine e_next (pc' := 180) rfl rfl ?_
    refine e_next (pc' := 181) rfl rfl ?_
    refine e_getR (pc' := 184) rfl rfl (hs.o rfl) (hs.a rfl) ?_
    refine e_getR (pc' := 187) rfl rfl (hs.o rfl) (hs.a rfl) ?_
    refine e_next (pc' := 189) rfl rfl ?_
    obtain ⟨k2, hi_k2, hj_k2, h⟩ := h
    refine e_iald k2 (pc' := 190) rfl rfl (hs.k rfl) hi_k2 hj_k2 (by decide) ?_
    refine e_next (pc' := 191) rfl rfl ?_
    refine e_next (pc' := 192) rfl rfl ?_
    refine e_next (pc' := 193) rfl rfl ?_
    refine e_getI (pc' := 196) rfl (Or.inl rfl) rfl (hs.o rfl) ?_
    obtain ⟨hz1, h⟩ := h
    refine e_irem (pc' := 197) rfl rfl hz1 ?_
    obtain ⟨k3, hi_k3, hj_k3, h⟩ := h
    refine e_iast k3 (pc' := 198) rfl rfl (hs.k rfl) hi_k3 hj_k3 (by decide) ?_
    refine e_iinc (pc' := 201) (ls' := [_, _, _, _, _, _, _]) (v := (nI 1)) rfl rfl kc_1 rfl rfl ?_
    refine e_next (pc' := 148) rfl rfl ?_
    exact h
theorem w18 {d : Nat} {x1 : Nat} {x2 : Int32} {g : qG} {I : qI} {J : qJ} {Q : qQ} (hs : qSh g) (h_x1 : qSer g x1) (h : (((I (x1 + 1) 0) = 0 → Q (some (.int (nI 2))) g I J) ∧ (¬ (I (x1 + 1) 0) = 0 → ¬ (I 12 7) = 0 ∧ (((qrem x2 (I 12 7)) = 0 → Q (some (.int (nI 3))) g I J) ∧ (¬ (qrem x2 (I 12 7)) = 0 → qev (d + 1) 18 (24, [.ref 12, .ref x1, .int x2, .int (nI 1), qpad], [], g, I, J) Q))))) : qC (d + 1) 18 [.ref 12, .ref x1, .int x2] g I J Q := by
  show qev (d + 1) 18 (0, [.ref 12, .ref x1, .int x2, qpad, qpad], [], g, I, J) Q
  refine e_next (pc' := 1) rfl rfl ?_
  refine e_getR (pc' := 4) rfl rfl h_x1.o h_x1.a0 ?_
  refine e_iconst (pc' := 5) rfl rfl kc_0 ?_
  refine e_iald 0 (pc' := 6) rfl rfl h_x1.k0 rfl (by decide) (by decide) ?_
  refine e_if (¬ (I (x1 + 1) 0) = 0) (pc' := 9) rfl rfl e_d (fun hc => ?_) (fun hc => ?_)
  · replace h := h.2 hc
    refine e_next (pc' := 12) rfl rfl ?_
    refine e_next (pc' := 13) rfl rfl ?_
    refine e_getI (pc' := 16) rfl (Or.inl rfl) rfl (hs.o rfl) ?_
    obtain ⟨hz1, h⟩ := h
    refine e_irem (pc' := 17) rfl rfl hz1 ?_
    refine e_if (¬ (qrem x2 (I 12 7)) = 0) (pc' := 20) rfl rfl e_d (fun hc => ?_) (fun hc => ?_)
    · replace h := h.2 hc
      refine e_iconst (pc' := 23) rfl rfl kc_1 ?_
      refine e_next (pc' := 24) (ls' := [_, _, _, _, _]) rfl rfl ?_
      exact h
    · replace h := h.1 (Decidable.not_not.mp hc)
      refine e_iconst (pc' := 21) rfl rfl kc_3 ?_
      exact e_iret rfl h
  · replace h := h.1 (Decidable.not_not.mp hc)
    refine e_iconst (pc' := 10) rfl rfl kc_2 ?_
    exact e_iret rfl h
theorem w18_24 {d : Nat} {x1 : Nat} {i2 : Int32} {i3 : Int32} {g : qG} {I : qI} {J : qJ} {Q : qQ} (hs : qSh g) (h_x1 : qSer g x1) (h : (((I 12 7) ≤ i3 → ((i3 < (I 12 7) → qev (d + 1) 18 (84, [.ref 12, .ref x1, .int i2, .int i3, .int (nI 1)], [], g, (qw (qw I 18 1 (nI 1)) 19 0 i3), J) Q) ∧ (¬ i3 < (I 12 7) → Q (some (.int (nI 4))) g I J))) ∧ (¬ (I 12 7) ≤ i3 → qC d 4 [.ref 12, .int i3, .int i2, .int (I (x1 + 1) 0)] g I J (fun v _ _ _ => ∃ r1, v = some (.int r1) ∧ ((r1 = 0 → qev (d + 1) 18 (24, [.ref 12, .ref x1, .int i2, .int (i3 + (nI 1)), qpad], [], g, I, J) Q) ∧ (¬ r1 = 0 → ((i3 < (I 12 7) → qev (d + 1) 18 (84, [.ref 12, .ref x1, .int i2, .int i3, .int (nI 1)], [], g, (qw (qw I 18 1 (nI 1)) 19 0 i3), J) Q) ∧ (¬ i3 < (I 12 7) → Q (some (.int (nI 4))) g I J)))))))) : qev (d + 1) 18 (24, [.ref 12, .ref x1, .int i2, .int i3, qpad], [], g, I, J) Q := by
  refine e_next (pc' := 25) rfl rfl ?_
  refine e_next (pc' := 26) rfl rfl ?_
  refine e_getI (pc' := 29) rfl (Or.inl rfl) rfl (hs.o rfl) ?_
  refine e_icmp ((I 12 7) ≤ i3) (pc' := 32) rfl rfl e_d (fun hc => ?_) (fun hc => ?_)
  · replace h := h.1 hc
    refine e_next (pc' := 54) rfl rfl ?_
    refine e_next (pc' := 55) rfl rfl ?_
    refine e_getI (pc' := 58) rfl (Or.inl rfl) rfl (hs.o rfl) ?_
    refine e_icmp (i3 < (I 12 7)) (pc' := 61) rfl rfl e_d (fun hc => ?_) (fun hc => ?_)
    · replace h := h.1 hc
      refine e_next (pc' := 64) rfl rfl ?_
      refine e_getR (pc' := 67) rfl rfl (hs.o rfl) (hs.a rfl) ?_
      refine e_iconst (pc' := 68) rfl rfl kc_1 ?_
      refine e_putI (pc' := 71) rfl rfl (hs.o rfl) ?_
      refine e_next (pc' := 72) rfl rfl ?_
      refine e_getR (pc' := 75) rfl rfl (hs.o rfl) (hs.a rfl) ?_
      refine e_getR (pc' := 78) rfl rfl (hs.o rfl) (hs.a rfl) ?_
      refine e_iconst (pc' := 79) rfl rfl kc_0 ?_
      refine e_next (pc' := 80) rfl rfl ?_
      refine e_iast 0 (pc' := 81) rfl rfl (hs.k rfl) rfl (by decide) (by decide) ?_
      refine e_iconst (pc' := 82) rfl rfl kc_1 ?_
      refine e_next (pc' := 84) (ls' := [_, _, _, _, _]) rfl rfl ?_
      exact h
    · replace h := h.2 hc
      refine e_iconst (pc' := 62) rfl rfl kc_4 ?_
      exact e_iret rfl h
  · replace h := h.2 hc
    refine e_next (pc' := 33) rfl rfl ?_
    refine e_next (pc' := 34) rfl rfl ?_
    refine e_next (pc' := 35) rfl rfl ?_
    refine e_next (pc' := 36) rfl rfl ?_
    refine e_getR (pc' := 39) rfl rfl h_x1.o h_x1.a0 ?_
    refine e_iconst (pc' := 40) rfl rfl kc_0 ?_
    refine e_iald 0 (pc' := 41) rfl rfl h_x1.k0 rfl (by decide) (by decide) ?_
    refine e_cpI (pc' := 44) rfl (e_sV (as := [_, _, _]) (fun _ => rfl) (Or.inl rfl) rfl (hs.o rfl) rfl rfl (Nat.le_of_ble_eq_true rfl) (Nat.le_of_ble_eq_true rfl) rfl) rfl rfl rfl ?_
    refine qev.mono h (fun v _ _ _ h => ?_)
    obtain ⟨r1, rfl, h⟩ := h
    refine ⟨r1, rfl, ?_⟩
    refine e_if (¬ r1 = 0) (pc' := 47) rfl rfl e_d (fun hc => ?_) (fun hc => ?_)
    · replace h := h.2 hc
      refine e_next (pc' := 54) rfl rfl ?_
      refine e_next (pc' := 55) rfl rfl ?_
      refine e_getI (pc' := 58) rfl (Or.inl rfl) rfl (hs.o rfl) ?_
      refine e_icmp (i3 < (I 12 7)) (pc' := 61) rfl rfl e_d (fun hc => ?_) (fun hc => ?_)
      · replace h := h.1 hc
        refine e_next (pc' := 64) rfl rfl ?_
        refine e_getR (pc' := 67) rfl rfl (hs.o rfl) (hs.a rfl) ?_
        refine e_iconst (pc' := 68) rfl rfl kc_1 ?_
        refine e_putI (pc' := 71) rfl rfl (hs.o rfl) ?_
        refine e_next (pc' := 72) rfl rfl ?_
        refine e_getR (pc' := 75) rfl rfl (hs.o rfl) (hs.a rfl) ?_
        refine e_getR (pc' := 78) rfl rfl (hs.o rfl) (hs.a rfl) ?_
        refine e_iconst (pc' := 79) rfl rfl kc_0 ?_
        refine e_next (pc' := 80) rfl rfl ?_
        refine e_iast 0 (pc' := 81) rfl rfl (hs.k rfl) rfl (by decide) (by decide) ?_
        refine e_iconst (pc' := 82) rfl rfl kc_1 ?_
        refine e_next (pc' := 84) (ls' := [_, _, _, _, _]) rfl rfl ?_
        exact h
      · replace h := h.2 hc
        refine e_iconst (pc' := 62) rfl rfl kc_4 ?_
        exact e_iret rfl h
    · replace h := h.1 (Decidable.not_not.mp hc)
      refine e_iinc (pc' := 50) (ls' := [_, _, _, _, _]) (v := (nI 1)) rfl rfl kc_1 rfl rfl ?_
      refine e_next (pc' := 24) rfl rfl ?_
      exact h
theorem w18_84 {d : Nat} {x1 : Nat} {i2 : Int32} {i3 : Int32} {i4 : Int32} {g : qG} {I : qI} {J : qJ} {Q : qQ} (hs : qSh g) (h_x1 : qSer g x1) (h : (((I x1 1) ≤ i4 → qC d 74 [.ref x1, .ref 18] g I J (fun v _ I1 _ => v = none ∧ Q (some (.int (-1))) g I1 J)) ∧ (¬ (I x1 1) ≤ i4 → qC d 76 [.ref 18, .int (qmin ((nI 2) * i4) (I x1 1))] g I J (fun v _ I2 _ => v = none ∧ qC d 74 [.ref 22, .ref 18] g I2 J (fun v _ I3 _ => v = none ∧ qC d 10 [.ref 12, .ref 22, .int (i2 - (nI 1))] g I3 J (fun v _ I4 _ => v = none ∧ qC d 74 [.ref 20, .ref 22] g I4 J (fun v _ I5 _ => v = none ∧ qC d 9 [.ref 12, .ref 20, .ref 18] g I5 J (fun v _ I6 _ => v = none ∧ qC d 7 [.ref 12, .ref 20, .ref x1, .int ((I6 12 7) - (nI 1))] g I6 J (fun v _ I7 _ => v = none ∧ qC d 19 [.ref 12, .ref 22, .int i2] g I7 J (fun v _ I8 _ => v = none ∧ qC d 20 [.ref 12] g I8 J (fun v _ I9 _ => v = none ∧ qev (d + 1) 18 (84, [.ref 12, .ref x1, .int i2, .int i3, .int (i4 * (nI 2))], [], g, I9, J) Q))))))))))) : qev (d + 1) 18 (84, [.ref 12, .ref x1, .int i2, .int i3, .int i4], [], g, I, J) Q := by
  refine e_next (pc' := 86) rfl rfl ?_
  refine e_next (pc' := 87) rfl rfl ?_
  refine e_getI (pc' := 90) rfl (Or.inl rfl) rfl h_x1.o ?_
  refine e_icmp ((I x1 1) ≤ i4) (pc' := 93) rfl rfl e_d (fun hc => ?_) (fun hc => ?_)
  · replace h := h.1 hc
    refine e_next (pc' := 194) rfl rfl ?_
    refine e_next (pc' := 195) rfl rfl ?_
    refine e_getR (pc' := 198) rfl rfl (hs.o rfl) (hs.a rfl) ?_
    refine e_ciV (pc' := 201) rfl (e_sV (as := [_]) (fun _ => rfl) (Or.inl rfl) rfl h_x1.o rfl rfl (Nat.le_of_ble_eq_true rfl) (Nat.le_of_ble_eq_true rfl) rfl) rfl rfl ?_
    refine qev.mono h (fun v _ I1 _ h => ?_)
    obtain ⟨rfl, h⟩ := h
    refine ⟨rfl, ?_⟩
    refine e_iconst (pc' := 202) rfl rfl kc_m1 ?_
    exact e_iret rfl h
  · replace h := h.2 hc
    refine e_next (pc' := 94) rfl rfl ?_
    refine e_getR (pc' := 97) rfl rfl (hs.o rfl) (hs.a rfl) ?_
    refine e_iconst (pc' := 98) rfl rfl kc_2 ?_
    refine e_next (pc' := 100) rfl rfl ?_
    refine e_next (pc' := 101) rfl rfl ?_
    refine e_next (pc' := 102) rfl rfl ?_
    refine e_getI (pc' := 105) rfl (Or.inl rfl) rfl h_x1.o ?_
    refine e_min (pc' := 108) rfl rfl (Nat.le_of_ble_eq_true rfl) ?_
    refine e_ciV (pc' := 111) rfl (e_sV (as := [_]) (fun _ => rfl) (Or.inl rfl) rfl (hs.o rfl) rfl rfl (Nat.le_of_ble_eq_true rfl) (Nat.le_of_ble_eq_true rfl) rfl) rfl rfl ?_
    refine qev.mono h (fun v _ I2 _ h => ?_)
    obtain ⟨rfl, h⟩ := h
    refine ⟨rfl, ?_⟩
    refine e_next (pc' := 112) rfl rfl ?_
    refine e_getR (pc' := 115) rfl rfl (hs.o rfl) (hs.a rfl) ?_
    refine e_next (pc' := 116) rfl rfl ?_
    refine e_getR (pc' := 119) rfl rfl (hs.o rfl) (hs.a rfl) ?_
    refine e_ciV (pc' := 122) rfl (e_sV (as := [_]) (fun _ => rfl) (Or.inl rfl) rfl (hs.o rfl) rfl rfl (Nat.le_of_ble_eq_true rfl) (Nat.le_of_ble_eq_true rfl) rfl) rfl rfl ?_
    refine qev.mono h (fun v _ I3 _ h => ?_)
    obtain ⟨rfl, h⟩ := h
    refine ⟨rfl, ?_⟩
    refine e_next (pc' := 123) rfl rfl ?_
    refine e_next (pc' := 124) rfl rfl ?_
    refine e_getR (pc' := 127) rfl rfl (hs.o rfl) (hs.a rfl) ?_
    refine e_next (pc' := 128) rfl rfl ?_
    refine e_iconst (pc' := 129) rfl rfl kc_1 ?_
    refine e_next (pc' := 130) rfl rfl ?_
    refine e_ciV (pc' := 133) rfl (e_sV (as := [_, _]) (fun _ => rfl) (Or.inl rfl) rfl (hs.o rfl) rfl rfl (Nat.le_of_ble_eq_true rfl) (Nat.le_of_ble_eq_true rfl) rfl) rfl rfl ?_
    refine qev.mono h (fun v _ I4 _ h => ?_)
    obtain ⟨rfl, h⟩ := h
    refine ⟨rfl, ?_⟩
    refine e_next (pc' := 134) rfl rfl ?_
    refine e_getR (pc' := 137) rfl rfl (hs.o rfl) (hs.a rfl) ?_
    refine e_next (pc' := 138) rfl rfl ?_
    refine e_getR (pc' := 141) rfl rfl (hs.o rfl) (hs.a rfl) ?_
    refine e_ciV (pc' := 144) rfl (e_sV (as := [_]) (fun _ => rfl) (Or.inl rfl) rfl (hs.o rfl) rfl rfl (Nat.le_of_ble_eq_true rfl) (Nat.le_of_ble_eq_true rfl) rfl) rfl rfl ?_
    refine qev.mono h (fun v _ I5 _ h => ?_)
    obtain ⟨rfl, h⟩ := h
    refine ⟨rfl, ?_⟩
    refine e_next (pc' := 145) rfl rfl ?_
    refine e_next (pc' := 146) rfl rfl ?_
    refine e_getR (pc' := 149) rfl rfl (hs.o rfl) (hs.a rfl) ?_
    refine e_next (pc' := 150) rfl rfl ?_
    refine e_getR (pc' := 153) rfl rfl (hs.o rfl) (hs.a rfl) ?_
    refine e_ciV (pc' := 156) rfl (e_sV (as := [_, _]) (fun _ => rfl) (Or.inl rfl) rfl (hs.o rfl) rfl rfl (Nat.le_of_ble_eq_true rfl) (Nat.le_of_ble_eq_true rfl) rfl) rfl rfl ?_
    refine qev.mono h (fun v _ I6 _ h => ?_)
    obtain ⟨rfl, h⟩ := h
    refine ⟨rfl, ?_⟩
    refine e_next (pc' := 157) rfl rfl ?_
    refine e_next (pc' := 158) rfl rfl ?_
    refine e_getR (pc' := 161) rfl rfl (hs.o rfl) (hs.a rfl) ?_
    refine e_next (pc' := 162) rfl rfl ?_
    refine e_next (pc' := 163) rfl rfl ?_
    refine e_getI (pc' := 166) rfl (Or.inl rfl) rfl (hs.o rfl) ?_
    refine e_iconst (pc' := 167) rfl rfl kc_1 ?_
    refine e_next (pc' := 168) rfl rfl ?_
    refine e_ciV (pc' := 171) rfl (e_sV (as := [_, _, _]) (fun _ => rfl) (Or.inl rfl) rfl (hs.o rfl) rfl rfl (Nat.le_of_ble_eq_true rfl) (Nat.le_of_ble_eq_true rfl) rfl) rfl rfl ?_
    refine qev.mono h (fun v _ I7 _ h => ?_)
    obtain ⟨rfl, h⟩ := h
    refine ⟨rfl, ?_⟩
    refine e_next (pc' := 172) rfl rfl ?_
    refine e_next (pc' := 173) rfl rfl ?_
    refine e_getR (pc' := 176) rfl rfl (hs.o rfl) (hs.a rfl) ?_
    refine e_next (pc' := 177) rfl rfl ?_
    refine e_ciV (pc' := 180) rfl (e_sV (as := [_, _]) (fun _ => rfl) (Or.inl rfl) rfl (hs.o rfl) rfl rfl (Nat.le_of_ble_eq_true rfl) (Nat.le_of_ble_eq_true rfl) rfl) rfl rfl ?_
    refine qev.mono h (fun v _ I8 _ h => ?_)
    obtain ⟨rfl, h⟩ := h
    refine ⟨rfl, ?_⟩
    refine e_next (pc' := 181) rfl rfl ?_
    refine e_ciV (pc' := 184) rfl (e_sV (as := []) (fun _ => rfl) (Or.inl rfl) rfl (hs.o rfl) rfl rfl (Nat.le_of_ble_eq_true rfl) (Nat.le_of_ble_eq_true rfl) rfl) rfl rfl ?_
    refine qev.mono h (fun v _ I9 _ h => ?_)
    obtain ⟨rfl, h⟩ := h
    refine ⟨rfl, ?_⟩
    refine e_next (pc' := 186) rfl rfl ?_
    refine e_iconst (pc' := 187) rfl rfl kc_2 ?_
    refine e_next (pc' := 188) rfl rfl ?_
    refine e_next (pc' := 190) (ls' := [_, _, _, _, _]) rfl rfl ?_
    refine e_next (pc' := 84) rfl rfl ?_
    exact h
theorem w19 {d : Nat} {x1 : Nat} {x2 : Int32} {g : qG} {I : qI} {J : qJ} {Q : qQ} (h_x1 : qSer g x1) (h : qev d 19 (2, [.ref 12, .ref x1, .int x2, .int (nI 0)], [], g, I, J) Q) : qC d 19 [.ref 12, .ref x1, .int x2] g I J Q := by
  show qev d 19 (0, [.ref 12, .ref x1, .int x2, qpad], [], g, I, J) Q
  refine e_iconst (pc' := 1) rfl rfl kc_0 ?_
  refine e_next (pc' := 2) (ls' := [_, _, _, _]) rfl rfl ?_
  exact h
theorem w19_2 {d : Nat} {x1 : Nat} {i2 : Int32} {i3 : Int32} {g : qG} {I : qI} {J : qJ} {Q : qQ} (hs : qSh g) (h_x1 : qSer g x1) (h : (((I x1 1) ≤ i3 → Q none g I J) ∧ (¬ (I x1 1) ≤ i3 → ∃ k1, i3 = nI k1 ∧ k1 < 24 ∧ ¬ (I 12 7) = 0 ∧ ∃ k2, i3 = nI k2 ∧ k2 < 24 ∧ qev d 19 (2, [.ref 12, .ref x1, .int i2, .int (i3 + (nI 1))], [], g, (qw I (x1 + 1) k2 (qrem ((I (x1 + 1) k1) * i2) (I 12 7))), J) Q))) : qev d 19 (2, [.ref 12, .ref x1, .int i2, .int i3], [], g, I, J) Q := by
  refine e_next (pc' := 3) rfl rfl ?_
  refine e_next (pc' := 4) rfl rfl ?_
  refine e_getI (pc' := 7) rfl (Or.inl rfl) rfl h_x1.o ?_
  refine e_icmp ((I x1 1) ≤ i3) (pc' := 10) rfl rfl e_d (fun hc => ?_) (fun hc => ?_)
  · replace h := h.1 hc
    exact qev_ret rfl rfl h
  · replace h := h.2 hc
    refine e_next (pc' := 11) rfl rfl ?_
    refine e_getR (pc' := 14) rfl rfl h_x1.o h_x1.a0 ?_
    refine e_next (pc' := 15) rfl rfl ?_
    refine e_next (pc' := 16) rfl rfl ?_
    refine e_getR (pc' := 19) rfl rfl h_x1.o h_x1.a0 ?_
    refine e_next (pc' := 20) rfl rfl ?_
    obtain ⟨k1, hi_k1, hj_k1, h⟩ := h
    refine e_iald k1 (pc' := 21) rfl rfl h_x1.k0 hi_k1 hj_k1 (by decide) ?_
    refine e_next (pc' := 22) rfl rfl ?_
    refine e_next (pc' := 23) rfl rfl ?_
    refine e_next (pc' := 24) rfl rfl ?_
    refine e_getI (pc' := 27) rfl (Or.inl rfl) rfl (hs.o rfl) ?_
    obtain ⟨hz1, h⟩ := h
    refine e_irem (pc' := 28) rfl rfl hz1 ?_
    obtain ⟨k2, hi_k2, hj_k2, h⟩ := h
    refine e_iast k2 (pc' := 29) rfl rfl h_x1.k0 hi_k2 hj_k2 (by decide) ?_
    refine e_iinc (pc' := 32) (ls' := [_, _, _, _]) (v := (nI 1)) rfl rfl kc_1 rfl rfl ?_
    refine e_next (pc' := 2) rfl rfl ?_
    exact h
theorem w20 {d : Nat}  {g : qG} {I : qI} {J : qJ} {Q : qQ} (hs : qSh g)  (h : qC d 75 [.ref 22, .int (I 18 1)] g I J (fun v _ I1 _ => v = none ∧ qC d 11 [.ref 12, .ref 22] g I1 J (fun v _ I2 _ => v = none ∧ qC d 9 [.ref 12, .ref 20, .ref 22] g I2 J (fun v _ I3 _ => v = none ∧ qC d 7 [.ref 12, .ref 18, .ref 20, .int ((I3 12 7) - (nI 1))] g I3 J (fun v _ I4 _ => v = none ∧ Q none g I4 J))))) : qC (d + 1) 20 [.ref 12] g I J Q := by
  show qev (d + 1) 20 (0, [.ref 12], [], g, I, J) Q
  refine e_next (pc' := 1) rfl rfl ?_
  refine e_getR (pc' := 4) rfl rfl (hs.o rfl) (hs.a rfl) ?_
  refine e_next (pc' := 5) rfl rfl ?_
  refine e_getR (pc' := 8) rfl rfl (hs.o rfl) (hs.a rfl) ?_
  refine e_getI (pc' := 11) rfl (Or.inl rfl) rfl (hs.o rfl) ?_
  refine e_ciV (pc' := 14) rfl (e_sV (as := [_]) (fun _ => rfl) (Or.inl rfl) rfl (hs.o rfl) rfl rfl (Nat.le_of_ble_eq_true rfl) (Nat.le_of_ble_eq_true rfl) rfl) rfl rfl ?_
  refine qev.mono h (fun v _ I1 _ h => ?_)
  obtain ⟨rfl, h⟩ := h
  refine ⟨rfl, ?_⟩
  refine e_next (pc' := 15) rfl rfl ?_
  refine e_next (pc' := 16) rfl rfl ?_
  refine e_getR (pc' := 19) rfl rfl (hs.o rfl) (hs.a rfl) ?_
  refine e_ciV (pc' := 22) rfl (e_sV (as := [_]) (fun _ => rfl) (Or.inl rfl) rfl (hs.o rfl) rfl rfl (Nat.le_of_ble_eq_true rfl) (Nat.le_of_ble_eq_true rfl) rfl) rfl rfl ?_
  refine qev.mono h (fun v _ I2 _ h => ?_)
  obtain ⟨rfl, h⟩ := h
  refine ⟨rfl, ?_⟩
  refine e_next (pc' := 23) rfl rfl ?_
  refine e_next (pc' := 24) rfl rfl ?_
  refine e_getR (pc' := 27) rfl rfl (hs.o rfl) (hs.a rfl) ?_
  refine e_next (pc' := 28) rfl rfl ?_
  refine e_getR (pc' := 31) rfl rfl (hs.o rfl) (hs.a rfl) ?_
  refine e_ciV (pc' := 34) rfl (e_sV (as := [_, _]) (fun _ => rfl) (Or.inl rfl) rfl (hs.o rfl) rfl rfl (Nat.le_of_ble_eq_true rfl) (Nat.le_of_ble_eq_true rfl) rfl) rfl rfl ?_
  refine qev.mono h (fun v _ I3 _ h => ?_)
  obtain ⟨rfl, h⟩ := h
  refine ⟨rfl, ?_⟩
  refine e_next (pc' := 35) rfl rfl ?_
  refine e_next (pc' := 36) rfl rfl ?_
  refine e_getR (pc' := 39) rfl rfl (hs.o rfl) (hs.a rfl) ?_
  refine e_next (pc' := 40) rfl rfl ?_
  refine e_getR (pc' := 43) rfl rfl (hs.o rfl) (hs.a rfl) ?_
  refine e_next (pc' := 44) rfl rfl ?_
  refine e_getI (pc' := 47) rfl (Or.inl rfl) rfl (hs.o rfl) ?_
  refine e_iconst (pc' := 48) rfl rfl kc_1 ?_
  refine e_next (pc' := 49) rfl rfl ?_
  refine e_ciV (pc' := 52) rfl (e_sV (as := [_, _, _]) (fun _ => rfl) (Or.inl rfl) rfl (hs.o rfl) rfl rfl (Nat.le_of_ble_eq_true rfl) (Nat.le_of_ble_eq_true rfl) rfl) rfl rfl ?_
  refine qev.mono h (fun v _ I4 _ h => ?_)
  obtain ⟨rfl, h⟩ := h
  refine ⟨rfl, ?_⟩
  exact qev_ret rfl rfl h
theorem w21 {d : Nat} {x1 : Nat} {x2 : Nat} {g : qG} {I : qI} {J : qJ} {Q : qQ} (hs : qSh g) (h_x1 : qSer g x1) (h_x2 : qSer g x2) (h : (((I (x2 + 1) 0) = 0 → qC d 73 [.ref x2] g I J (fun v _ _ _ => ∃ r1, v = some (.int r1) ∧ qC d 22 [.ref 12, .ref x1] g I J (fun v _ _ _ => ∃ r2, v = some (.int r2) ∧ qC d 268 [.ref 13, .int (nI 0)] g I J (fun v _ I1 _ => v = none ∧ qC d 5 [.ref 12, .ref 14, .int (nI 1)] g I1 J (fun v _ I2 _ => v = none ∧ qev (d + 1) 21 (55, [.ref 12, .ref x1, .ref x2, .int (qmin (I 12 8) ((I x1 1) * r1)), .int r2, .int (nI 0), qpad], [], g, I2, J) Q))))) ∧ (¬ (I (x2 + 1) 0) = 0 → Q (some (.int (nI 2))) g I J))) : qC (d + 1) 21 [.ref 12, .ref x1, .ref x2] g I J Q := by
  show qev (d + 1) 21 (0, [.ref 12, .ref x1, .ref x2, qpad, qpad, qpad, qpad], [], g, I, J) Q
  refine e_next (pc' := 1) rfl rfl ?_
  refine e_getR (pc' := 4) rfl rfl h_x2.o h_x2.a0 ?_
  refine e_iconst (pc' := 5) rfl rfl kc_0 ?_
  refine e_iald 0 (pc' := 6) rfl rfl h_x2.k0 rfl (by decide) (by decide) ?_
  refine e_if ((I (x2 + 1) 0) = 0) (pc' := 9) rfl rfl e_d (fun hc => ?_) (fun hc => ?_)
  · replace h := h.1 hc
    refine e_next (pc' := 12) rfl rfl ?_
    refine e_getI (pc' := 15) rfl (Or.inl rfl) rfl (hs.o rfl) ?_
    refine e_next (pc' := 16) rfl rfl ?_
    refine e_getI (pc' := 19) rfl (Or.inl rfl) rfl h_x1.o ?_
    refine e_next (pc' := 20) rfl rfl ?_
    refine e_cpI (pc' := 23) rfl (e_sV (as := []) (fun _ => rfl) (Or.inl rfl) rfl h_x2.o rfl rfl (Nat.le_of_ble_eq_true rfl) (Nat.le_of_ble_eq_true rfl) rfl) rfl rfl rfl ?_
    refine qev.mono h (fun v _ _ _ h => ?_)
    obtain ⟨r1, rfl, h⟩ := h
    refine ⟨r1, rfl, ?_⟩
    refine e_next (pc' := 24) rfl rfl ?_
    refine e_min (pc' := 27) rfl rfl (Nat.le_of_ble_eq_true rfl) ?_
    refine e_next (pc' := 28) (ls' := [_, _, _, _, _, _, _]) rfl rfl ?_
    refine e_next (pc' := 29) rfl rfl ?_
    refine e_next (pc' := 30) rfl rfl ?_
    refine e_cpI (pc' := 33) rfl (e_sV (as := [_]) (fun _ => rfl) (Or.inl rfl) rfl (hs.o rfl) rfl rfl (Nat.le_of_ble_eq_true rfl) (Nat.le_of_ble_eq_true rfl) rfl) rfl rfl rfl ?_
    refine qev.mono h (fun v _ _ _ h => ?_)
    obtain ⟨r2, rfl, h⟩ := h
    refine ⟨r2, rfl, ?_⟩
    refine e_next (pc' := 35) (ls' := [_, _, _, _, _, _, _]) rfl rfl ?_
    refine e_next (pc' := 36) rfl rfl ?_
    refine e_getR (pc' := 39) rfl rfl (hs.o rfl) (hs.a rfl) ?_
    refine e_iconst (pc' := 40) rfl rfl kc_0 ?_
    refine e_ciV (pc' := 43) rfl (e_sS (as := [_, _]) (fun _ => rfl) rfl (Nat.le_of_ble_eq_true rfl) rfl rfl (Nat.le_of_ble_eq_true rfl) (Nat.le_of_ble_eq_true rfl) rfl) rfl rfl ?_
    refine qev.mono h (fun v _ I1 _ h => ?_)
    obtain ⟨rfl, h⟩ := h
    refine ⟨rfl, ?_⟩
    refine e_next (pc' := 44) rfl rfl ?_
    refine e_next (pc' := 45) rfl rfl ?_
    refine e_getR (pc' := 48) rfl rfl (hs.o rfl) (hs.a rfl) ?_
    refine e_iconst (pc' := 49) rfl rfl kc_1 ?_
    refine e_ciV (pc' := 52) rfl (e_sV (as := [_, _]) (fun _ => rfl) (Or.inl rfl) rfl (hs.o rfl) rfl rfl (Nat.le_of_ble_eq_true rfl) (Nat.le_of_ble_eq_true rfl) rfl) rfl rfl ?_
    refine qev.mono h (fun v _ I2 _ h => ?_)
    obtain ⟨rfl, h⟩ := h
    refine ⟨rfl, ?_⟩
    refine e_iconst (pc' := 53) rfl rfl kc_0 ?_
    refine e_next (pc' := 55) (ls' := [_, _, _, _, _, _, _]) rfl rfl ?_
    exact h
  · replace h := h.2 hc
    refine e_iconst (pc' := 10) rfl rfl kc_2 ?_
    exact e_iret rfl h
theorem w21_55 {d : Nat} {x1 : Nat} {x2 : Nat} {i3 : Int32} {i4 : Int32} {i5 : Int32} {w6 : Value} {g : qG} {I : qI} {J : qJ} {Q : qQ} (hs : qSh g) (h_x1 : qSer g x1) (h_x2 : qSer g x2) (h : ((i4 < i5 → (((nI 1) ≤ i3 → ∃ s1 t1 n1 : Nat, (nI 0) = nI s1 ∧ (nI 0) = nI t1 ∧ i3 = nI n1 ∧ s1 + n1 ≤ 24 ∧ t1 + n1 ≤ 24 ∧ Q (some (.int (-1))) g (qw (va_up I (x1 + 1) (va_cpy (I 13) (I (x1 + 1)) s1 t1 n1)) x1 1 i3) J) ∧ (¬ (nI 1) ≤ i3 → Q (some (.int (nI 5))) g I J))) ∧ (¬ i4 < i5 → ((i5 ≤ 0 → ∃ k1, i5 = nI k1 ∧ k1 < 24 ∧ (((I (x1 + 1) k1) = 0 → qev (d + 1) 21 (55, [.ref 12, .ref x1, .ref x2, .int i3, .int i4, .int (i5 + (nI 1)), w6], [], g, I, J) Q) ∧ (¬ (I (x1 + 1) k1) = 0 → qev (d + 1) 21 (101, [.ref 12, .ref x1, .ref x2, .int (qmin i3 (I 14 1)), .int i4, .int i5, .int (nI 0)], [], g, I, J) Q))) ∧ (¬ i5 ≤ 0 → qC d 9 [.ref 12, .ref 14, .ref x2] g I J (fun v _ I1 _ => v = none ∧ ∃ k2, i5 = nI k2 ∧ k2 < 24 ∧ (((I1 (x1 + 1) k2) = 0 → qev (d + 1) 21 (55, [.ref 12, .ref x1, .ref x2, .int i3, .int i4, .int (i5 + (nI 1)), w6], [], g, I1, J) Q) ∧ (¬ (I1 (x1 + 1) k2) = 0 → qev (d + 1) 21 (101, [.ref 12, .ref x1, .ref x2, .int (qmin i3 (I1 14 1)), .int i4, .int i5, .int (nI 0)], [], g, I1, J) Q)))))))) : qev (d + 1) 21 (55, [.ref 12, .ref x1, .ref x2, .int i3, .int i4, .int i5, w6], [], g, I, J) Q := by
  refine e_next (pc' := 57) rfl rfl ?_
  refine e_next (pc' := 59) rfl rfl ?_
  refine e_icmp (i4 < i5) (pc' := 62) rfl rfl e_d (fun hc => ?_) (fun hc => ?_)
  · replace h := h.1 hc
    refine e_next (pc' := 158) rfl rfl ?_
    refine e_iconst (pc' := 159) rfl rfl kc_1 ?_
    refine e_icmp ((nI 1) ≤ i3) (pc' := 162) rfl rfl e_d (fun hc => ?_) (fun hc => ?_)
    · replace h := h.1 hc
      refine e_next (pc' := 165) rfl rfl ?_
      refine e_getR (pc' := 168) rfl rfl (hs.o rfl) (hs.a rfl) ?_
      refine e_iconst (pc' := 169) rfl rfl kc_0 ?_
      refine e_next (pc' := 170) rfl rfl ?_
      refine e_getR (pc' := 173) rfl rfl h_x1.o h_x1.a0 ?_
      refine e_iconst (pc' := 174) rfl rfl kc_0 ?_
      refine e_next (pc' := 175) rfl rfl ?_
      obtain ⟨s1, t1, n1, hs_s1, hd_s1, hn_s1, h1_s1, h2_s1, h⟩ := h
      refine e_copy s1 t1 n1 (pc' := 178) rfl rfl (Nat.le_of_ble_eq_true rfl) (hs.k rfl) h_x1.k0 hs_s1 hd_s1 hn_s1 h1_s1 h2_s1 (by decide) (by decide) ?_
      refine e_next (pc' := 179) rfl rfl ?_
      refine e_next (pc' := 180) rfl rfl ?_
      refine e_putI (pc' := 183) rfl rfl h_x1.o ?_
      refine e_iconst (pc' := 184) rfl rfl kc_m1 ?_
      exact e_iret rfl h
    · replace h := h.2 hc
      refine e_iconst (pc' := 163) rfl rfl kc_5 ?_
      exact e_iret rfl h
  · replace h := h.2 hc
    refine e_next (pc' := 64) rfl rfl ?_
    refine e_if (i5 ≤ 0) (pc' := 67) rfl rfl e_d (fun hc => ?_) (fun hc => ?_)
    · replace h := h.1 hc
      refine e_next (pc' := 77) rfl rfl ?_
      refine e_getR (pc' := 80) rfl rfl h_x1.o h_x1.a0 ?_
      refine e_next (pc' := 82) rfl rfl ?_
      obtain ⟨k1, hi_k1, hj_k1, h⟩ := h
      refine e_iald k1 (pc' := 83) rfl rfl h_x1.k0 hi_k1 hj_k1 (by decide) ?_
      refine e_if ((I (x1 + 1) k1) = 0) (pc' := 86) rfl rfl e_d (fun hc => ?_) (fun hc => ?_)
      · replace h := h.1 hc
        refine e_iinc (pc' := 154) (ls' := [_, _, _, _, _, _, _]) (v := (nI 1)) rfl rfl kc_1 rfl rfl ?_
        refine e_next (pc' := 55) rfl rfl ?_
        exact h
      · replace h := h.2 hc
        refine e_next (pc' := 87) rfl rfl ?_
        refine e_next (pc' := 88) rfl rfl ?_
        refine e_getR (pc' := 91) rfl rfl (hs.o rfl) (hs.a rfl) ?_
        refine e_getI (pc' := 94) rfl (Or.inl rfl) rfl (hs.o rfl) ?_
        refine e_min (pc' := 97) rfl rfl (Nat.le_of_ble_eq_true rfl) ?_
        refine e_next (pc' := 98) (ls' := [_, _, _, _, _, _, _]) rfl rfl ?_
        refine e_iconst (pc' := 99) rfl rfl kc_0 ?_
        refine e_next (pc' := 101) (ls' := [_, _, _, _, _, _, _]) rfl rfl ?_
        exact h
    · replace h := h.2 hc
      refine e_next (pc' := 68) rfl rfl ?_
      refine e_next (pc' := 69) rfl rfl ?_
      refine e_getR (pc' := 72) rfl rfl (hs.o rfl) (hs.a rfl) ?_
      refine e_next (pc' := 73) rfl rfl ?_
      refine e_ciV (pc' := 76) rfl (e_sV (as := [_, _]) (fun _ => rfl) (Or.inl rfl) rfl (hs.o rfl) rfl rfl (Nat.le_of_ble_eq_true rfl) (Nat.le_of_ble_eq_true rfl) rfl) rfl rfl ?_
      refine qev.mono h (fun v _ I1 _ h => ?_)
      obtain ⟨rfl, h⟩ := h
      refine ⟨rfl, ?_⟩
      refine e_next (pc' := 77) rfl rfl ?_
      refine e_getR (pc' := 80) rfl rfl h_x1.o h_x1.a0 ?_
      refine e_next (pc' := 82) rfl rfl ?_
      obtain ⟨k2, hi_k2, hj_k2, h⟩ := h
      refine e_iald k2 (pc' := 83) rfl rfl h_x1.k0 hi_k2 hj_k2 (by decide) ?_
      refine e_if ((I1 (x1 + 1) k2) = 0) (pc' := 86) rfl rfl e_d (fun hc => ?_) (fun hc => ?_)
      · replace h := h.1 hc
        refine e_iinc (pc' := 154) (ls' := [_, _, _, _, _, _, _]) (v := (nI 1)) rfl rfl kc_1 rfl rfl ?_
        refine e_next (pc' := 55) rfl rfl ?_
        exact h
      · replace h := h.2 hc
        refine e_next (pc' := 87) rfl rfl ?_
        refine e_next (pc' := 88) rfl rfl ?_
        refine e_getR (pc' := 91) rfl rfl (hs.o rfl) (hs.a rfl) ?_
        refine e_getI (pc' := 94) rfl (Or.inl rfl) rfl (hs.o rfl) ?_
        refine e_min (pc' := 97) rfl rfl (Nat.le_of_ble_eq_true rfl) ?_
        refine e_next (pc' := 98) (ls' := [_, _, _, _, _, _, _]) rfl rfl ?_
        refine e_iconst (pc' := 99) rfl rfl kc_0 ?_
        refine e_next (pc' := 101) (ls' := [_, _, _, _, _, _, _]) rfl rfl ?_
        exact h
theorem w21_101 {d : Nat} {x1 : Nat} {x2 : Nat} {i3 : Int32} {i4 : Int32} {i5 : Int32} {i6 : Int32} {g : qG} {I : qI} {J : qJ} {Q : qQ} (hs : qSh g) (h_x1 : qSer g x1) (h_x2 : qSer g x2) (h : ((i3 ≤ i6 → qev (d + 1) 21 (55, [.ref 12, .ref x1, .ref x2, .int i3, .int i4, .int (i5 + (nI 1)), .int i6], [], g, I, J) Q) ∧ (¬ i3 ≤ i6 → ∃ k1, i6 = nI k1 ∧ k1 < 24 ∧ ∃ k2, i5 = nI k2 ∧ k2 < 24 ∧ ∃ k3, i6 = nI k3 ∧ k3 < 24 ∧ ¬ (I 12 7) = 0 ∧ ∃ k4, i6 = nI k4 ∧ k4 < 24 ∧ qev (d + 1) 21 (101, [.ref 12, .ref x1, .ref x2, .int i3, .int i4, .int i5, .int (i6 + (nI 1))], [], g, (qw I 13 k4 (qrem ((I 13 k1) + ((I (x1 + 1) k2) * (I 15 k3))) (I 12 7))), J) Q))) : qev (d + 1) 21 (101, [.ref 12, .ref x1, .ref x2, .int i3, .int i4, .int i5, .int i6], [], g, I, J) Q := by
  refine e_next (pc' := 103) rfl rfl ?_
  refine e_next (pc' := 104) rfl rfl ?_
  refine e_icmp (i3 ≤ i6) (pc' := 107) rfl rfl e_d (fun hc => ?_) (fun hc => ?_)
  · replace h := h.1 hc
    refine e_iinc (pc' := 154) (ls' := [_, _, _, _, _, _, _]) (v := (nI 1)) rfl rfl kc_1 rfl rfl ?_
    refine e_next (pc' := 55) rfl rfl ?_
    exact h
  · replace h := h.2 hc
    refine e_next (pc' := 108) rfl rfl ?_
    refine e_getR (pc' := 111) rfl rfl (hs.o rfl) (hs.a rfl) ?_
    refine e_next (pc' := 113) rfl rfl ?_
    refine e_next (pc' := 114) rfl rfl ?_
    refine e_getR (pc' := 117) rfl rfl (hs.o rfl) (hs.a rfl) ?_
    refine e_next (pc' := 119) rfl rfl ?_
    obtain ⟨k1, hi_k1, hj_k1, h⟩ := h
    refine e_iald k1 (pc' := 120) rfl rfl (hs.k rfl) hi_k1 hj_k1 (by decide) ?_
    refine e_next (pc' := 121) rfl rfl ?_
    refine e_getR (pc' := 124) rfl rfl h_x1.o h_x1.a0 ?_
    refine e_next (pc' := 126) rfl rfl ?_
    obtain ⟨k2, hi_k2, hj_k2, h⟩ := h
    refine e_iald k2 (pc' := 127) rfl rfl h_x1.k0 hi_k2 hj_k2 (by decide) ?_
    refine e_next (pc' := 128) rfl rfl ?_
    refine e_getR (pc' := 131) rfl rfl (hs.o rfl) (hs.a rfl) ?_
    refine e_getR (pc' := 134) rfl rfl (hs.o rfl) (hs.a rfl) ?_
    refine e_next (pc' := 136) rfl rfl ?_
    obtain ⟨k3, hi_k3, hj_k3, h⟩ := h
    refine e_iald k3 (pc' := 137) rfl rfl (hs.k rfl) hi_k3 hj_k3 (by decide) ?_
    refine e_next (pc' := 138) rfl rfl ?_
    refine e_next (pc' := 139) rfl rfl ?_
    refine e_next (pc' := 140) rfl rfl ?_
    refine e_getI (pc' := 143) rfl (Or.inl rfl) rfl (hs.o rfl) ?_
    obtain ⟨hz1, h⟩ := h
    refine e_irem (pc' := 144) rfl rfl hz1 ?_
    obtain ⟨k4, hi_k4, hj_k4, h⟩ := h
    refine e_iast k4 (pc' := 145) rfl rfl (hs.k rfl) hi_k4 hj_k4 (by decide) ?_
    refine e_iinc (pc' := 148) (ls' := [_, _, _, _, _, _, _]) (v := (nI 1)) rfl rfl kc_1 rfl rfl ?_
    refine e_next (pc' := 101) rfl rfl ?_
    exact h
theorem w22 {d : Nat} {x1 : Nat} {g : qG} {I : qI} {J : qJ} {Q : qQ} (h_x1 : qSer g x1) (h : qev d 22 (7, [.ref 12, .ref x1, .int ((I x1 1) - (nI 1))], [], g, I, J) Q) : qC d 22 [.ref 12, .ref x1] g I J Q := by
  show qev d 22 (0, [.ref 12, .ref x1, qpad], [], g, I, J) Q
  refine e_next (pc' := 1) rfl rfl ?_
  refine e_getI (pc' := 4) rfl (Or.inl rfl) rfl h_x1.o ?_
  refine e_iconst (pc' := 5) rfl rfl kc_1 ?_
  refine e_next (pc' := 6) rfl rfl ?_
  refine e_next (pc' := 7) (ls' := [_, _, _]) rfl rfl ?_
  exact h
theorem w22_7 {d : Nat} {x1 : Nat} {i2 : Int32} {g : qG} {I : qI} {J : qJ} {Q : qQ} (h_x1 : qSer g x1) (h : ((i2 < 0 → Q (some (.int i2)) g I J) ∧ (¬ i2 < 0 → ∃ k1, i2 = nI k1 ∧ k1 < 24 ∧ (((I (x1 + 1) k1) = 0 → qev d 22 (7, [.ref 12, .ref x1, .int (i2 + (-1))], [], g, I, J) Q) ∧ (¬ (I (x1 + 1) k1) = 0 → Q (some (.int i2)) g I J))))) : qev d 22 (7, [.ref 12, .ref x1, .int i2], [], g, I, J) Q := by
  refine e_next (pc' := 8) rfl rfl ?_
  refine e_if (i2 < 0) (pc' := 11) rfl rfl e_d (fun hc => ?_) (fun hc => ?_)
  · replace h := h.1 hc
    refine e_next (pc' := 27) rfl rfl ?_
    exact e_iret rfl h
  · replace h := h.2 hc
    refine e_next (pc' := 12) rfl rfl ?_
    refine e_getR (pc' := 15) rfl rfl h_x1.o h_x1.a0 ?_
    refine e_next (pc' := 16) rfl rfl ?_
    obtain ⟨k1, hi_k1, hj_k1, h⟩ := h
    refine e_iald k1 (pc' := 17) rfl rfl h_x1.k0 hi_k1 hj_k1 (by decide) ?_
    refine e_if (¬ (I (x1 + 1) k1) = 0) (pc' := 20) rfl rfl e_d (fun hc => ?_) (fun hc => ?_)
    · replace h := h.2 hc
      refine e_next (pc' := 27) rfl rfl ?_
      exact e_iret rfl h
    · replace h := h.1 (Decidable.not_not.mp hc)
      refine e_iinc (pc' := 23) (ls' := [_, _, _]) (v := (-1)) rfl rfl kc_m1 rfl rfl ?_
      refine e_next (pc' := 7) rfl rfl ?_
      exact h
theorem w23 {d : Nat} {x1 : Nat} {x2 : Int32} {g : qG} {I : qI} {J : qJ} {Q : qQ} (hs : qSh g) (h_x1 : qSer g x1) (h : ¬ (I 12 7) = 0 ∧ qev d 23 (18, [.ref 12, .ref x1, .int x2, .int (qrem x2 (I 12 7)), .int (nI 0), .int ((I x1 1) - (nI 1))], [], g, I, J) Q) : qC d 23 [.ref 12, .ref x1, .int x2] g I J Q := by
  show qev d 23 (0, [.ref 12, .ref x1, .int x2, qpad, qpad, qpad], [], g, I, J) Q
  refine e_next (pc' := 1) rfl rfl ?_
  refine e_next (pc' := 2) rfl rfl ?_
  refine e_getI (pc' := 5) rfl (Or.inl rfl) rfl (hs.o rfl) ?_
  obtain ⟨hz1, h⟩ := h
  refine e_irem (pc' := 6) rfl rfl hz1 ?_
  refine e_next (pc' := 7) (ls' := [_, _, _, _, _, _]) rfl rfl ?_
  refine e_iconst (pc' := 8) rfl rfl kc_0 ?_
  refine e_next (pc' := 10) (ls' := [_, _, _, _, _, _]) rfl rfl ?_
  refine e_next (pc' := 11) rfl rfl ?_
  refine e_getI (pc' := 14) rfl (Or.inl rfl) rfl h_x1.o ?_
  refine e_iconst (pc' := 15) rfl rfl kc_1 ?_
  refine e_next (pc' := 16) rfl rfl ?_
  refine e_next (pc' := 18) (ls' := [_, _, _, _, _, _]) rfl rfl ?_
  exact h
theorem w23_18 {d : Nat} {x1 : Nat} {i2 : Int32} {i3 : Int32} {i4 : Int32} {i5 : Int32} {g : qG} {I : qI} {J : qJ} {Q : qQ} (hs : qSh g) (h_x1 : qSer g x1) (h : ((i5 < 0 → Q (some (.int i4)) g I J) ∧ (¬ i5 < 0 → ∃ k1, i5 = nI k1 ∧ k1 < 24 ∧ ¬ (I 12 7) = 0 ∧ qev d 23 (18, [.ref 12, .ref x1, .int i2, .int i3, .int (qrem ((i4 * i3) + (I (x1 + 1) k1)) (I 12 7)), .int (i5 + (-1))], [], g, I, J) Q))) : qev d 23 (18, [.ref 12, .ref x1, .int i2, .int i3, .int i4, .int i5], [], g, I, J) Q := by
  refine e_next (pc' := 20) rfl rfl ?_
  refine e_if (i5 < 0) (pc' := 23) rfl rfl e_d (fun hc => ?_) (fun hc => ?_)
  · replace h := h.1 hc
    refine e_next (pc' := 50) rfl rfl ?_
    exact e_iret rfl h
  · replace h := h.2 hc
    refine e_next (pc' := 25) rfl rfl ?_
    refine e_next (pc' := 26) rfl rfl ?_
    refine e_next (pc' := 27) rfl rfl ?_
    refine e_next (pc' := 28) rfl rfl ?_
    refine e_getR (pc' := 31) rfl rfl h_x1.o h_x1.a0 ?_
    refine e_next (pc' := 33) rfl rfl ?_
    obtain ⟨k1, hi_k1, hj_k1, h⟩ := h
    refine e_iald k1 (pc' := 34) rfl rfl h_x1.k0 hi_k1 hj_k1 (by decide) ?_
    refine e_next (pc' := 35) rfl rfl ?_
    refine e_next (pc' := 36) rfl rfl ?_
    refine e_getI (pc' := 39) rfl (Or.inl rfl) rfl (hs.o rfl) ?_
    obtain ⟨hz1, h⟩ := h
    refine e_irem (pc' := 40) rfl rfl hz1 ?_
    refine e_next (pc' := 42) (ls' := [_, _, _, _, _, _]) rfl rfl ?_
    refine e_iinc (pc' := 45) (ls' := [_, _, _, _, _, _]) (v := (-1)) rfl rfl kc_m1 rfl rfl ?_
    refine e_next (pc' := 18) rfl rfl ?_
    exact h
theorem w24 {d : Nat} {x1 : Nat} {g : qG} {I : qI} {J : qJ} {Q : qQ} (h_x1 : qSer g x1) (h : (((I (x1 + 1) 0) = 0 → Q (some (.int (-1))) g I J) ∧ (¬ (I (x1 + 1) 0) = 0 → qev (d + 1) 24 (20, [.ref 12, .ref x1, .int (nI 1), .int (I (x1 + 1) 0)], [], g, I, J) Q))) : qC (d + 1) 24 [.ref 12, .ref x1] g I J Q := by
  show qev (d + 1) 24 (0, [.ref 12, .ref x1, qpad, qpad], [], g, I, J) Q
  refine e_next (pc' := 1) rfl rfl ?_
  refine e_getR (pc' := 4) rfl rfl h_x1.o h_x1.a0 ?_
  refine e_iconst (pc' := 5) rfl rfl kc_0 ?_
  refine e_iald 0 (pc' := 6) rfl rfl h_x1.k0 rfl (by decide) (by decide) ?_
  refine e_if (¬ (I (x1 + 1) 0) = 0) (pc' := 9) rfl rfl e_d (fun hc => ?_) (fun hc => ?_)
  · replace h := h.2 hc
    refine e_iconst (pc' := 12) rfl rfl kc_1 ?_
    refine e_next (pc' := 13) (ls' := [_, _, _, _]) rfl rfl ?_
    refine e_next (pc' := 14) rfl rfl ?_
    refine e_getR (pc' := 17) rfl rfl h_x1.o h_x1.a0 ?_
    refine e_iconst (pc' := 18) rfl rfl kc_0 ?_
    refine e_iald 0 (pc' := 19) rfl rfl h_x1.k0 rfl (by decide) (by decide) ?_
    refine e_next (pc' := 20) (ls' := [_, _, _, _]) rfl rfl ?_
    exact h
  · replace h := h.1 (Decidable.not_not.mp hc)
    refine e_iconst (pc' := 10) rfl rfl kc_m1 ?_
    exact e_iret rfl h
theorem w24_20 {d : Nat} {x1 : Nat} {i2 : Int32} {i3 : Int32} {g : qG} {I : qI} {J : qJ} {Q : qQ} (hs : qSh g) (h_x1 : qSer g x1) (h : ((i3 = (nI 1) → ((i2 ≤ (nI 99) → qC d 10 [.ref 12, .ref x1, .int i2] g I J (fun v _ I1 _ => v = none ∧ qev (d + 1) 24 (65, [.ref 12, .ref x1, .int i2, .int i3], [], g, I1, J) Q)) ∧ (¬ i2 ≤ (nI 99) → Q (some (.int (-1))) g I J))) ∧ (¬ i3 = (nI 1) → (((nI 99) < i2 → ((i2 ≤ (nI 99) → qC d 10 [.ref 12, .ref x1, .int i2] g I J (fun v _ I2 _ => v = none ∧ qev (d + 1) 24 (65, [.ref 12, .ref x1, .int i2, .int i3], [], g, I2, J) Q)) ∧ (¬ i2 ≤ (nI 99) → Q (some (.int (-1))) g I J))) ∧ (¬ (nI 99) < i2 → ¬ (I 12 7) = 0 ∧ qev (d + 1) 24 (20, [.ref 12, .ref x1, .int (i2 + (nI 1)), .int (qrem (i3 * (I (x1 + 1) 0)) (I 12 7))], [], g, I, J) Q))))) : qev (d + 1) 24 (20, [.ref 12, .ref x1, .int i2, .int i3], [], g, I, J) Q := by
  refine e_next (pc' := 21) rfl rfl ?_
  refine e_iconst (pc' := 22) rfl rfl kc_1 ?_
  refine e_icmp (i3 = (nI 1)) (pc' := 25) rfl rfl e_d (fun hc => ?_) (fun hc => ?_)
  · replace h := h.1 hc
    refine e_next (pc' := 52) rfl rfl ?_
    refine e_bipush (pc' := 54) rfl rfl kb_99 ?_
    refine e_icmp (i2 ≤ (nI 99)) (pc' := 57) rfl rfl e_d (fun hc => ?_) (fun hc => ?_)
    · replace h := h.1 hc
      refine e_next (pc' := 60) rfl rfl ?_
      refine e_next (pc' := 61) rfl rfl ?_
      refine e_next (pc' := 62) rfl rfl ?_
      refine e_ciV (pc' := 65) rfl (e_sV (as := [_, _]) (fun _ => rfl) (Or.inl rfl) rfl (hs.o rfl) rfl rfl (Nat.le_of_ble_eq_true rfl) (Nat.le_of_ble_eq_true rfl) rfl) rfl rfl ?_
      refine qev.mono h (fun v _ I1 _ h => ?_)
      obtain ⟨rfl, h⟩ := h
      refine ⟨rfl, ?_⟩
      exact h
    · replace h := h.2 hc
      refine e_iconst (pc' := 58) rfl rfl kc_m1 ?_
      exact e_iret rfl h
  · replace h := h.2 hc
    refine e_next (pc' := 26) rfl rfl ?_
    refine e_bipush (pc' := 28) rfl rfl kb_99 ?_
    refine e_icmp ((nI 99) < i2) (pc' := 31) rfl rfl e_d (fun hc => ?_) (fun hc => ?_)
    · replace h := h.1 hc
      refine e_next (pc' := 52) rfl rfl ?_
      refine e_bipush (pc' := 54) rfl rfl kb_99 ?_
      refine e_icmp (i2 ≤ (nI 99)) (pc' := 57) rfl rfl e_d (fun hc => ?_) (fun hc => ?_)
      · replace h := h.1 hc
        refine e_next (pc' := 60) rfl rfl ?_
        refine e_next (pc' := 61) rfl rfl ?_
        refine e_next (pc' := 62) rfl rfl ?_
        refine e_ciV (pc' := 65) rfl (e_sV (as := [_, _]) (fun _ => rfl) (Or.inl rfl) rfl (hs.o rfl) rfl rfl (Nat.le_of_ble_eq_true rfl) (Nat.le_of_ble_eq_true rfl) rfl) rfl rfl ?_
        refine qev.mono h (fun v _ I2 _ h => ?_)
        obtain ⟨rfl, h⟩ := h
        refine ⟨rfl, ?_⟩
        exact h
      · replace h := h.2 hc
        refine e_iconst (pc' := 58) rfl rfl kc_m1 ?_
        exact e_iret rfl h
    · replace h := h.2 hc
      refine e_next (pc' := 32) rfl rfl ?_
      refine e_next (pc' := 33) rfl rfl ?_
      refine e_getR (pc' := 36) rfl rfl h_x1.o h_x1.a0 ?_
      refine e_iconst (pc' := 37) rfl rfl kc_0 ?_
      refine e_iald 0 (pc' := 38) rfl rfl h_x1.k0 rfl (by decide) (by decide) ?_
      refine e_next (pc' := 39) rfl rfl ?_
      refine e_next (pc' := 40) rfl rfl ?_
      refine e_getI (pc' := 43) rfl (Or.inl rfl) rfl (hs.o rfl) ?_
      obtain ⟨hz1, h⟩ := h
      refine e_irem (pc' := 44) rfl rfl hz1 ?_
      refine e_next (pc' := 45) (ls' := [_, _, _, _]) rfl rfl ?_
      refine e_iinc (pc' := 48) (ls' := [_, _, _, _]) (v := (nI 1)) rfl rfl kc_1 rfl rfl ?_
      refine e_next (pc' := 20) rfl rfl ?_
      exact h
theorem w24_65 {d : Nat} {x1 : Nat} {i2 : Int32} {i3 : Int32} {g : qG} {I : qI} {J : qJ} {Q : qQ} (hs : qSh g) (h_x1 : qSer g x1) (h : qC d 25 [.ref 12, .ref x1] g I J (fun v _ _ _ => ∃ r1, v = some (.int r1) ∧ ((r1 = 0 → (((i2 * (I 12 7)) ≤ (nI 99) → qC d 10 [.ref 12, .ref x1, .int (I 12 7)] g I J (fun v _ I1 _ => v = none ∧ qev (d + 1) 24 (65, [.ref 12, .ref x1, .int (i2 * (I 12 7)), .int i3], [], g, I1, J) Q)) ∧ (¬ (i2 * (I 12 7)) ≤ (nI 99) → Q (some (.int (-1))) g I J))) ∧ (¬ r1 = 0 → Q (some (.int i2)) g I J)))) : qev (d + 1) 24 (65, [.ref 12, .ref x1, .int i2, .int i3], [], g, I, J) Q := by
  refine e_next (pc' := 66) rfl rfl ?_
  refine e_next (pc' := 67) rfl rfl ?_
  refine e_cpI (pc' := 70) rfl (e_sV (as := [_]) (fun _ => rfl) (Or.inl rfl) rfl (hs.o rfl) rfl rfl (Nat.le_of_ble_eq_true rfl) (Nat.le_of_ble_eq_true rfl) rfl) rfl rfl rfl ?_
  refine qev.mono h (fun v _ _ _ h => ?_)
  obtain ⟨r1, rfl, h⟩ := h
  refine ⟨r1, rfl, ?_⟩
  refine e_if (¬ r1 = 0) (pc' := 73) rfl rfl e_d (fun hc => ?_) (fun hc => ?_)
  · replace h := h.2 hc
    refine e_next (pc' := 101) rfl rfl ?_
    exact e_iret rfl h
  · replace h := h.1 (Decidable.not_not.mp hc)
    refine e_next (pc' := 74) rfl rfl ?_
    refine e_next (pc' := 75) rfl rfl ?_
    refine e_getI (pc' := 78) rfl (Or.inl rfl) rfl (hs.o rfl) ?_
    refine e_next (pc' := 79) rfl rfl ?_
    refine e_next (pc' := 80) (ls' := [_, _, _, _]) rfl rfl ?_
    refine e_next (pc' := 81) rfl rfl ?_
    refine e_bipush (pc' := 83) rfl rfl kb_99 ?_
    refine e_icmp ((i2 * (I 12 7)) ≤ (nI 99)) (pc' := 86) rfl rfl e_d (fun hc => ?_) (fun hc => ?_)
    · replace h := h.1 hc
      refine e_next (pc' := 89) rfl rfl ?_
      refine e_next (pc' := 90) rfl rfl ?_
      refine e_next (pc' := 91) rfl rfl ?_
      refine e_getI (pc' := 94) rfl (Or.inl rfl) rfl (hs.o rfl) ?_
      refine e_ciV (pc' := 97) rfl (e_sV (as := [_, _]) (fun _ => rfl) (Or.inl rfl) rfl (hs.o rfl) rfl rfl (Nat.le_of_ble_eq_true rfl) (Nat.le_of_ble_eq_true rfl) rfl) rfl rfl ?_
      refine qev.mono h (fun v _ I1 _ h => ?_)
      obtain ⟨rfl, h⟩ := h
      refine ⟨rfl, ?_⟩
      refine e_next (pc' := 65) rfl rfl ?_
      exact h
    · replace h := h.2 hc
      refine e_iconst (pc' := 87) rfl rfl kc_m1 ?_
      exact e_iret rfl h
theorem w25 {d : Nat} {x1 : Nat} {g : qG} {I : qI} {J : qJ} {Q : qQ} (hs : qSh g) (h_x1 : qSer g x1) (h : (((I (x1 + 1) 0) = (nI 1) → qC d 22 [.ref 12, .ref x1] g I J (fun v _ _ _ => ∃ r1, v = some (.int r1) ∧ ((r1 = 0 → Q (some (.int (nI 1))) g I J) ∧ (¬ r1 = 0 → Q (some (.int (nI 0))) g I J)))) ∧ (¬ (I (x1 + 1) 0) = (nI 1) → Q (some (.int (nI 0))) g I J))) : qC (d + 1) 25 [.ref 12, .ref x1] g I J Q := by
  show qev (d + 1) 25 (0, [.ref 12, .ref x1], [], g, I, J) Q
  refine e_next (pc' := 1) rfl rfl ?_
  refine e_getR (pc' := 4) rfl rfl h_x1.o h_x1.a0 ?_
  refine e_iconst (pc' := 5) rfl rfl kc_0 ?_
  refine e_iald 0 (pc' := 6) rfl rfl h_x1.k0 rfl (by decide) (by decide) ?_
  refine e_iconst (pc' := 7) rfl rfl kc_1 ?_
  refine e_icmp (¬ (I (x1 + 1) 0) = (nI 1)) (pc' := 10) rfl rfl e_d (fun hc => ?_) (fun hc => ?_)
  · replace h := h.2 hc
    refine e_iconst (pc' := 23) rfl rfl kc_0 ?_
    exact e_zret rfl (Or.inl nI_0) h
  · replace h := h.1 (Decidable.not_not.mp hc)
    refine e_next (pc' := 11) rfl rfl ?_
    refine e_next (pc' := 12) rfl rfl ?_
    refine e_cpI (pc' := 15) rfl (e_sV (as := [_]) (fun _ => rfl) (Or.inl rfl) rfl (hs.o rfl) rfl rfl (Nat.le_of_ble_eq_true rfl) (Nat.le_of_ble_eq_true rfl) rfl) rfl rfl rfl ?_
    refine qev.mono h (fun v _ _ _ h => ?_)
    obtain ⟨r1, rfl, h⟩ := h
    refine ⟨r1, rfl, ?_⟩
    refine e_if (¬ r1 = 0) (pc' := 18) rfl rfl e_d (fun hc => ?_) (fun hc => ?_)
    · replace h := h.2 hc
      refine e_iconst (pc' := 23) rfl rfl kc_0 ?_
      exact e_zret rfl (Or.inl nI_0) h
    · replace h := h.1 (Decidable.not_not.mp hc)
      refine e_iconst (pc' := 19) rfl rfl kc_1 ?_
      refine e_next (pc' := 23) rfl rfl ?_
      exact e_zret rfl (Or.inr nI_one) h
theorem w26 {d : Nat}  {g : qG} {I : qI} {J : qJ} {Q : qQ} (hs : qSh g)  (h : qev d 26 (7, [.ref 12, .int (I 12 8), .int (nI 0)], [], g, I, J) Q) : qC d 26 [.ref 12] g I J Q := by
  show qev d 26 (0, [.ref 12, qpad, qpad], [], g, I, J) Q
  refine e_next (pc' := 1) rfl rfl ?_
  refine e_getI (pc' := 4) rfl (Or.inl rfl) rfl (hs.o rfl) ?_
  refine e_next (pc' := 5) (ls' := [_, _, _]) rfl rfl ?_
  refine e_iconst (pc' := 6) rfl rfl kc_0 ?_
  refine e_next (pc' := 7) (ls' := [_, _, _]) rfl rfl ?_
  exact h
theorem w26_7 {d : Nat} {i1 : Int32} {i2 : Int32} {g : qG} {I : qI} {J : qJ} {Q : qQ} (hs : qSh g)  (h : (((nI 3) < i2 → Q (some (.int i1)) g I J) ∧ (¬ (nI 3) < i2 → ∃ k1, i2 = nI k1 ∧ k1 < 4 ∧ qev d 26 (7, [.ref 12, .int (qmin i1 (I (25 + 2 * k1) 1)), .int (i2 + (nI 1))], [], g, I, J) Q))) : qev d 26 (7, [.ref 12, .int i1, .int i2], [], g, I, J) Q := by
  refine e_next (pc' := 8) rfl rfl ?_
  refine e_iconst (pc' := 9) rfl rfl kc_3 ?_
  refine e_icmp ((nI 3) < i2) (pc' := 12) rfl rfl e_d (fun hc => ?_) (fun hc => ?_)
  · replace h := h.1 hc
    refine e_next (pc' := 33) rfl rfl ?_
    exact e_iret rfl h
  · replace h := h.2 hc
    refine e_next (pc' := 13) rfl rfl ?_
    refine e_next (pc' := 14) rfl rfl ?_
    refine e_getR (pc' := 17) rfl rfl (hs.o rfl) (hs.a rfl) ?_
    refine e_next (pc' := 18) rfl rfl ?_
    obtain ⟨k1, hi_k1, hj_k1, h⟩ := h
    refine e_aaldR k1 (pc' := 19) rfl rfl (hs.k rfl) rfl hi_k1 hj_k1 (by decide) (hs.cubic hj_k1) ?_
    refine e_getI (pc' := 22) rfl (Or.inl rfl) rfl (hs.cubicS hj_k1).o ?_
    refine e_min (pc' := 25) rfl rfl (Nat.le_of_ble_eq_true rfl) ?_
    refine e_next (pc' := 26) (ls' := [_, _, _]) rfl rfl ?_
    refine e_iinc (pc' := 29) (ls' := [_, _, _]) (v := (nI 1)) rfl rfl kc_1 rfl rfl ?_
    refine e_next (pc' := 7) rfl rfl ?_
    exact h
theorem w27 {d : Nat} {x1 : Int32} {g : qG} {I : qI} {J : qJ} {Q : qQ} (hs : qSh g)  (h : ¬ (I 12 7) = 0 ∧ ¬ (I 12 7) = 0 ∧ ¬ (I 12 7) = 0 ∧ ¬ (I 12 7) = 0 ∧ ¬ (I 12 7) = 0 ∧ (((qrem (((qrem (((qrem (((I 32 0) * x1) + (I 30 0)) (I 12 7)) * x1) + (I 28 0)) (I 12 7)) * x1) + (I 26 0)) (I 12 7)) = 0 → (((qrem (((qrem ((((nI 3) * (I 32 0)) * x1) + ((nI 2) * (I 30 0))) (I 12 7)) * x1) + (I 28 0)) (I 12 7)) = 0 → Q (some (.int (nI 0))) g I J) ∧ (¬ (qrem (((qrem ((((nI 3) * (I 32 0)) * x1) + ((nI 2) * (I 30 0))) (I 12 7)) * x1) + (I 28 0)) (I 12 7)) = 0 → Q (some (.int (nI 1))) g I J))) ∧ (¬ (qrem (((qrem (((qrem (((I 32 0) * x1) + (I 30 0)) (I 12 7)) * x1) + (I 28 0)) (I 12 7)) * x1) + (I 26 0)) (I 12 7)) = 0 → Q (some (.int (nI 0))) g I J))) : qC d 27 [.ref 12, .int x1] g I J Q := by
  show qev d 27 (0, [.ref 12, .int x1, qpad, qpad, qpad, qpad, qpad], [], g, I, J) Q
  refine e_next (pc' := 1) rfl rfl ?_
  refine e_getR (pc' := 4) rfl rfl (hs.o rfl) (hs.a rfl) ?_
  refine e_iconst (pc' := 5) rfl rfl kc_1 ?_
  refine e_aaldR 1 (pc' := 6) rfl rfl (hs.k rfl) rfl rfl (by decide) (by decide) (hs.cubic (j := 1) (by decide)) ?_
  refine e_getR (pc' := 9) rfl rfl (hs.o rfl) (hs.a rfl) ?_
  refine e_iconst (pc' := 10) rfl rfl kc_0 ?_
  refine e_iald 0 (pc' := 11) rfl rfl (hs.k rfl) rfl (by decide) (by decide) ?_
  refine e_next (pc' := 12) (ls' := [_, _, _, _, _, _, _]) rfl rfl ?_
  refine e_next (pc' := 13) rfl rfl ?_
  refine e_getR (pc' := 16) rfl rfl (hs.o rfl) (hs.a rfl) ?_
  refine e_iconst (pc' := 17) rfl rfl kc_2 ?_
  refine e_aaldR 2 (pc' := 18) rfl rfl (hs.k rfl) rfl rfl (by decide) (by decide) (hs.cubic (j := 2) (by decide)) ?_
  refine e_getR (pc' := 21) rfl rfl (hs.o rfl) (hs.a rfl) ?_
  refine e_iconst (pc' := 22) rfl rfl kc_0 ?_
  refine e_iald 0 (pc' := 23) rfl rfl (hs.k rfl) rfl (by decide) (by decide) ?_
  refine e_next (pc' := 24) (ls' := [_, _, _, _, _, _, _]) rfl rfl ?_
  refine e_next (pc' := 25) rfl rfl ?_
  refine e_getR (pc' := 28) rfl rfl (hs.o rfl) (hs.a rfl) ?_
  refine e_iconst (pc' := 29) rfl rfl kc_3 ?_
  refine e_aaldR 3 (pc' := 30) rfl rfl (hs.k rfl) rfl rfl (by decide) (by decide) (hs.cubic (j := 3) (by decide)) ?_
  refine e_getR (pc' := 33) rfl rfl (hs.o rfl) (hs.a rfl) ?_
  refine e_iconst (pc' := 34) rfl rfl kc_0 ?_
  refine e_iald 0 (pc' := 35) rfl rfl (hs.k rfl) rfl (by decide) (by decide) ?_
  refine e_next (pc' := 37) (ls' := [_, _, _, _, _, _, _]) rfl rfl ?_
  refine e_next (pc' := 39) rfl rfl ?_
  refine e_next (pc' := 40) rfl rfl ?_
  refine e_next (pc' := 41) rfl rfl ?_
  refine e_next (pc' := 42) rfl rfl ?_
  refine e_next (pc' := 43) rfl rfl ?_
  refine e_next (pc' := 44) rfl rfl ?_
  refine e_getI (pc' := 47) rfl (Or.inl rfl) rfl (hs.o rfl) ?_
  obtain ⟨hz1, h⟩ := h
  refine e_irem (pc' := 48) rfl rfl hz1 ?_
  refine e_next (pc' := 49) rfl rfl ?_
  refine e_next (pc' := 50) rfl rfl ?_
  refine e_next (pc' := 51) rfl rfl ?_
  refine e_next (pc' := 52) rfl rfl ?_
  refine e_next (pc' := 53) rfl rfl ?_
  refine e_getI (pc' := 56) rfl (Or.inl rfl) rfl (hs.o rfl) ?_
  obtain ⟨hz2, h⟩ := h
  refine e_irem (pc' := 57) rfl rfl hz2 ?_
  refine e_next (pc' := 58) rfl rfl ?_
  refine e_next (pc' := 59) rfl rfl ?_
  refine e_next (pc' := 60) rfl rfl ?_
  refine e_getR (pc' := 63) rfl rfl (hs.o rfl) (hs.a rfl) ?_
  refine e_iconst (pc' := 64) rfl rfl kc_0 ?_
  refine e_aaldR 0 (pc' := 65) rfl rfl (hs.k rfl) rfl rfl (by decide) (by decide) (hs.cubic (j := 0) (by decide)) ?_
  refine e_getR (pc' := 68) rfl rfl (hs.o rfl) (hs.a rfl) ?_
  refine e_iconst (pc' := 69) rfl rfl kc_0 ?_
  refine e_iald 0 (pc' := 70) rfl rfl (hs.k rfl) rfl (by decide) (by decide) ?_
  refine e_next (pc' := 71) rfl rfl ?_
  refine e_next (pc' := 72) rfl rfl ?_
  refine e_getI (pc' := 75) rfl (Or.inl rfl) rfl (hs.o rfl) ?_
  obtain ⟨hz3, h⟩ := h
  refine e_irem (pc' := 76) rfl rfl hz3 ?_
  refine e_next (pc' := 78) (ls' := [_, _, _, _, _, _, _]) rfl rfl ?_
  refine e_iconst (pc' := 79) rfl rfl kc_3 ?_
  refine e_next (pc' := 81) rfl rfl ?_
  refine e_next (pc' := 82) rfl rfl ?_
  refine e_next (pc' := 83) rfl rfl ?_
  refine e_next (pc' := 84) rfl rfl ?_
  refine e_iconst (pc' := 85) rfl rfl kc_2 ?_
  refine e_next (pc' := 86) rfl rfl ?_
  refine e_next (pc' := 87) rfl rfl ?_
  refine e_next (pc' := 88) rfl rfl ?_
  refine e_next (pc' := 89) rfl rfl ?_
  refine e_getI (pc' := 92) rfl (Or.inl rfl) rfl (hs.o rfl) ?_
  obtain ⟨hz4, h⟩ := h
  refine e_irem (pc' := 93) rfl rfl hz4 ?_
  refine e_next (pc' := 94) rfl rfl ?_
  refine e_next (pc' := 95) rfl rfl ?_
  refine e_next (pc' := 96) rfl rfl ?_
  refine e_next (pc' := 97) rfl rfl ?_
  refine e_next (pc' := 98) rfl rfl ?_
  refine e_getI (pc' := 101) rfl (Or.inl rfl) rfl (hs.o rfl) ?_
  obtain ⟨hz5, h⟩ := h
  refine e_irem (pc' := 102) rfl rfl hz5 ?_
  refine e_next (pc' := 104) (ls' := [_, _, _, _, _, _, _]) rfl rfl ?_
  refine e_next (pc' := 106) rfl rfl ?_
  refine e_if (¬ (qrem (((qrem (((qrem (((I 32 0) * x1) + (I 30 0)) (I 12 7)) * x1) + (I 28 0)) (I 12 7)) * x1) + (I 26 0)) (I 12 7)) = 0) (pc' := 109) rfl rfl e_d (fun hc => ?_) (fun hc => ?_)
  · replace h := h.2 hc
    refine e_iconst (pc' := 119) rfl rfl kc_0 ?_
    exact e_zret rfl (Or.inl nI_0) h
  · replace h := h.1 (Decidable.not_not.mp hc)
    refine e_next (pc' := 111) rfl rfl ?_
    refine e_if ((qrem (((qrem ((((nI 3) * (I 32 0)) * x1) + ((nI 2) * (I 30 0))) (I 12 7)) * x1) + (I 28 0)) (I 12 7)) = 0) (pc' := 114) rfl rfl e_d (fun hc => ?_) (fun hc => ?_)
    · replace h := h.1 hc
      refine e_iconst (pc' := 119) rfl rfl kc_0 ?_
      exact e_zret rfl (Or.inl nI_0) h
    · replace h := h.2 hc
      refine e_iconst (pc' := 115) rfl rfl kc_1 ?_
      refine e_next (pc' := 119) rfl rfl ?_
      exact e_zret rfl (Or.inr nI_one) h
theorem w28 {d : Nat} {x1 : Int32} {x2 : Int32} {g : qG} {I : qI} {J : qJ} {Q : qQ} (hs : qSh g)  (h : qev (d + 1) 28 (20, [.ref 12, .int x1, .int x2, .int (nI 1)], [], g, (qw (qw I 18 1 (nI 1)) 19 0 x1), J) Q) : qC (d + 1) 28 [.ref 12, .int x1, .int x2] g I J Q := by
  show qev (d + 1) 28 (0, [.ref 12, .int x1, .int x2, qpad], [], g, I, J) Q
  refine e_next (pc' := 1) rfl rfl ?_
  refine e_getR (pc' := 4) rfl rfl (hs.o rfl) (hs.a rfl) ?_
  refine e_iconst (pc' := 5) rfl rfl kc_1 ?_
  refine e_putI (pc' := 8) rfl rfl (hs.o rfl) ?_
  refine e_next (pc' := 9) rfl rfl ?_
  refine e_getR (pc' := 12) rfl rfl (hs.o rfl) (hs.a rfl) ?_
  refine e_getR (pc' := 15) rfl rfl (hs.o rfl) (hs.a rfl) ?_
  refine e_iconst (pc' := 16) rfl rfl kc_0 ?_
  refine e_next (pc' := 17) rfl rfl ?_
  refine e_iast 0 (pc' := 18) rfl rfl (hs.k rfl) rfl (by decide) (by decide) ?_
  refine e_iconst (pc' := 19) rfl rfl kc_1 ?_
  refine e_next (pc' := 20) (ls' := [_, _, _, _]) rfl rfl ?_
  exact h
theorem w28_20 {d : Nat} {i1 : Int32} {i2 : Int32} {i3 : Int32} {g : qG} {I : qI} {J : qJ} {Q : qQ} (hs : qSh g)  (h : ((i2 ≤ i3 → Q (some (va_rf (some 18))) g I J) ∧ (¬ i2 ≤ i3 → qC d 76 [.ref 18, .int (qmin ((nI 2) * i3) i2)] g I J (fun v _ I1 _ => v = none ∧ qC d 74 [.ref 20, .ref 31] g I1 J (fun v _ I2 _ => v = none ∧ qC d 74 [.ref 22, .ref 31] g I2 J (fun v _ I3 _ => v = none ∧ qC d 19 [.ref 12, .ref 22, .int (nI 3)] g I3 J (fun v _ I4 _ => v = none ∧ qC d 9 [.ref 12, .ref 20, .ref 18] g I4 J (fun v _ I5 _ => v = none ∧ qC d 7 [.ref 12, .ref 20, .ref 29, .int (nI 1)] g I5 J (fun v _ I6 _ => v = none ∧ qC d 9 [.ref 12, .ref 20, .ref 18] g I6 J (fun v _ I7 _ => v = none ∧ qC d 7 [.ref 12, .ref 20, .ref 27, .int (nI 1)] g I7 J (fun v _ I8 _ => v = none ∧ qC d 9 [.ref 12, .ref 20, .ref 18] g I8 J (fun v _ I9 _ => v = none ∧ qC d 7 [.ref 12, .ref 20, .ref 25, .int (nI 1)] g I9 J (fun v _ I10 _ => v = none ∧ qC d 9 [.ref 12, .ref 22, .ref 18] g I10 J (fun v _ I11 _ => v = none ∧ qC d 7 [.ref 12, .ref 22, .ref 29, .int (nI 2)] g I11 J (fun v _ I12 _ => v = none ∧ qC d 9 [.ref 12, .ref 22, .ref 18] g I12 J (fun v _ I13 _ => v = none ∧ qC d 7 [.ref 12, .ref 22, .ref 27, .int (nI 1)] g I13 J (fun v _ I14 _ => v = none ∧ qC d 20 [.ref 12] g I14 J (fun v _ I15 _ => v = none ∧ qev (d + 1) 28 (20, [.ref 12, .int i1, .int i2, .int (i3 * (nI 2))], [], g, I15, J) Q)))))))))))))))))) : qev (d + 1) 28 (20, [.ref 12, .int i1, .int i2, .int i3], [], g, I, J) Q := by
  refine e_next (pc' := 21) rfl rfl ?_
  refine e_next (pc' := 22) rfl rfl ?_
  refine e_icmp (i2 ≤ i3) (pc' := 25) rfl rfl e_d (fun hc => ?_) (fun hc => ?_)
  · replace h := h.1 hc
    refine e_next (pc' := 221) rfl rfl ?_
    refine e_getR (pc' := 224) rfl rfl (hs.o rfl) (hs.a rfl) ?_
    exact e_aret (v := (some 18)) rfl h
  · replace h := h.2 hc
    refine e_next (pc' := 26) rfl rfl ?_
    refine e_getR (pc' := 29) rfl rfl (hs.o rfl) (hs.a rfl) ?_
    refine e_iconst (pc' := 30) rfl rfl kc_2 ?_
    refine e_next (pc' := 31) rfl rfl ?_
    refine e_next (pc' := 32) rfl rfl ?_
    refine e_next (pc' := 33) rfl rfl ?_
    refine e_min (pc' := 36) rfl rfl (Nat.le_of_ble_eq_true rfl) ?_
    refine e_ciV (pc' := 39) rfl (e_sV (as := [_]) (fun _ => rfl) (Or.inl rfl) rfl (hs.o rfl) rfl rfl (Nat.le_of_ble_eq_true rfl) (Nat.le_of_ble_eq_true rfl) rfl) rfl rfl ?_
    refine qev.mono h (fun v _ I1 _ h => ?_)
    obtain ⟨rfl, h⟩ := h
    refine ⟨rfl, ?_⟩
    refine e_next (pc' := 40) rfl rfl ?_
    refine e_getR (pc' := 43) rfl rfl (hs.o rfl) (hs.a rfl) ?_
    refine e_next (pc' := 44) rfl rfl ?_
    refine e_getR (pc' := 47) rfl rfl (hs.o rfl) (hs.a rfl) ?_
    refine e_iconst (pc' := 48) rfl rfl kc_3 ?_
    refine e_aaldR 3 (pc' := 49) rfl rfl (hs.k rfl) rfl rfl (by decide) (by decide) (hs.cubic (j := 3) (by decide)) ?_
    refine e_ciV (pc' := 52) rfl (e_sV (as := [_]) (fun _ => rfl) (Or.inl rfl) rfl (hs.o rfl) rfl rfl (Nat.le_of_ble_eq_true rfl) (Nat.le_of_ble_eq_true rfl) rfl) rfl rfl ?_
    refine qev.mono h (fun v _ I2 _ h => ?_)
    obtain ⟨rfl, h⟩ := h
    refine ⟨rfl, ?_⟩
    refine e_next (pc' := 53) rfl rfl ?_
    refine e_getR (pc' := 56) rfl rfl (hs.o rfl) (hs.a rfl) ?_
    refine e_next (pc' := 57) rfl rfl ?_
    refine e_getR (pc' := 60) rfl rfl (hs.o rfl) (hs.a rfl) ?_
    refine e_iconst (pc' := 61) rfl rfl kc_3 ?_
    refine e_aaldR 3 (pc' := 62) rfl rfl (hs.k rfl) rfl rfl (by decide) (by decide) (hs.cubic (j := 3) (by decide)) ?_
    refine e_ciV (pc' := 65) rfl (e_sV (as := [_]) (fun _ => rfl) (Or.inl rfl) rfl (hs.o rfl) rfl rfl (Nat.le_of_ble_eq_true rfl) (Nat.le_of_ble_eq_true rfl) rfl) rfl rfl ?_
    refine qev.mono h (fun v _ I3 _ h => ?_)
    obtain ⟨rfl, h⟩ := h
    refine ⟨rfl, ?_⟩
    refine e_next (pc' := 66) rfl rfl ?_
    refine e_next (pc' := 67) rfl rfl ?_
    refine e_getR (pc' := 70) rfl rfl (hs.o rfl) (hs.a rfl) ?_
    refine e_iconst (pc' := 71) rfl rfl kc_3 ?_
    refine e_ciV (pc' := 74) rfl (e_sV (as := [_, _]) (fun _ => rfl) (Or.inl rfl) rfl (hs.o rfl) rfl rfl (Nat.le_of_ble_eq_true rfl) (Nat.le_of_ble_eq_true rfl) rfl) rfl rfl ?_
    refine qev.mono h (fun v _ I4 _ h => ?_)
    obtain ⟨rfl, h⟩ := h
    refine ⟨rfl, ?_⟩
    refine e_next (pc' := 75) rfl rfl ?_
    refine e_next (pc' := 76) rfl rfl ?_
    refine e_getR (pc' := 79) rfl rfl (hs.o rfl) (hs.a rfl) ?_
    refine e_next (pc' := 80) rfl rfl ?_
    refine e_getR (pc' := 83) rfl rfl (hs.o rfl) (hs.a rfl) ?_
    refine e_ciV (pc' := 86) rfl (e_sV (as := [_, _]) (fun _ => rfl) (Or.inl rfl) rfl (hs.o rfl) rfl rfl (Nat.le_of_ble_eq_true rfl) (Nat.le_of_ble_eq_true rfl) rfl) rfl rfl ?_
    refine qev.mono h (fun v _ I5 _ h => ?_)
    obtain ⟨rfl, h⟩ := h
    refine ⟨rfl, ?_⟩
    refine e_next (pc' := 87) rfl rfl ?_
    refine e_next (pc' := 88) rfl rfl ?_
    refine e_getR (pc' := 91) rfl rfl (hs.o rfl) (hs.a rfl) ?_
    refine e_next (pc' := 92) rfl rfl ?_
    refine e_getR (pc' := 95) rfl rfl (hs.o rfl) (hs.a rfl) ?_
    refine e_iconst (pc' := 96) rfl rfl kc_2 ?_
    refine e_aaldR 2 (pc' := 97) rfl rfl (hs.k rfl) rfl rfl (by decide) (by decide) (hs.cubic (j := 2) (by decide)) ?_
    refine e_iconst (pc' := 98) rfl rfl kc_1 ?_
    refine e_ciV (pc' := 101) rfl (e_sV (as := [_, _, _]) (fun _ => rfl) (Or.inl rfl) rfl (hs.o rfl) rfl rfl (Nat.le_of_ble_eq_true rfl) (Nat.le_of_ble_eq_true rfl) rfl) rfl rfl ?_
    refine qev.mono h (fun v _ I6 _ h => ?_)
    obtain ⟨rfl, h⟩ := h
    refine ⟨rfl, ?_⟩
    refine e_next (pc' := 102) rfl rfl ?_
    refine e_next (pc' := 103) rfl rfl ?_
    refine e_getR (pc' := 106) rfl rfl (hs.o rfl) (hs.a rfl) ?_
    refine e_next (pc' := 107) rfl rfl ?_
    refine e_getR (pc' := 110) rfl rfl (hs.o rfl) (hs.a rfl) ?_
    refine e_ciV (pc' := 113) rfl (e_sV (as := [_, _]) (fun _ => rfl) (Or.inl rfl) rfl (hs.o rfl) rfl rfl (Nat.le_of_ble_eq_true rfl) (Nat.le_of_ble_eq_true rfl) rfl) rfl rfl ?_
    refine qev.mono h (fun v _ I7 _ h => ?_)
    obtain ⟨rfl, h⟩ := h
    refine ⟨rfl, ?_⟩
    refine e_next (pc' := 114) rfl rfl ?_
    refine e_next (pc' := 115) rfl rfl ?_
    refine e_getR (pc' := 118) rfl rfl (hs.o rfl) (hs.a rfl) ?_
    refine e_next (pc' := 119) rfl rfl ?_
    refine e_getR (pc' := 122) rfl rfl (hs.o rfl) (hs.a rfl) ?_
    refine e_iconst (pc' := 123) rfl rfl kc_1 ?_
    refine e_aaldR 1 (pc' := 124) rfl rfl (hs.k rfl) rfl rfl (by decide) (by decide) (hs.cubic (j := 1) (by decide)) ?_
    refine e_iconst (pc' := 125) rfl rfl kc_1 ?_
    refine e_ciV (pc' := 128) rfl (e_sV (as := [_, _, _]) (fun _ => rfl) (Or.inl rfl) rfl (hs.o rfl) rfl rfl (Nat.le_of_ble_eq_true rfl) (Nat.le_of_ble_eq_true rfl) rfl) rfl rfl ?_
    refine qev.mono h (fun v _ I8 _ h => ?_)
    obtain ⟨rfl, h⟩ := h
    refine ⟨rfl, ?_⟩
    refine e_next (pc' := 129) rfl rfl ?_
    refine e_next (pc' := 130) rfl rfl ?_
    refine e_getR (pc' := 133) rfl rfl (hs.o rfl) (hs.a rfl) ?_
    refine e_next (pc' := 134) rfl rfl ?_
    refine e_getR (pc' := 137) rfl rfl (hs.o rfl) (hs.a rfl) ?_
    refine e_ciV (pc' := 140) rfl (e_sV (as := [_, _]) (fun _ => rfl) (Or.inl rfl) rfl (hs.o rfl) rfl rfl (Nat.le_of_ble_eq_true rfl) (Nat.le_of_ble_eq_true rfl) rfl) rfl rfl ?_
    refine qev.mono h (fun v _ I9 _ h => ?_)
    obtain ⟨rfl, h⟩ := h
    refine ⟨rfl, ?_⟩
    refine e_next (pc' := 141) rfl rfl ?_
    refine e_next (pc' := 142) rfl rfl ?_
    refine e_getR (pc' := 145) rfl rfl (hs.o rfl) (hs.a rfl) ?_
    refine e_next (pc' := 146) rfl rfl ?_
    refine e_getR (pc' := 149) rfl rfl (hs.o rfl) (hs.a rfl) ?_
    refine e_iconst (pc' := 150) rfl rfl kc_0 ?_
    refine e_aaldR 0 (pc' := 151) rfl rfl (hs.k rfl) rfl rfl (by decide) (by decide) (hs.cubic (j := 0) (by decide)) ?_
    refine e_iconst (pc' := 152) rfl rfl kc_1 ?_
    refine e_ciV (pc' := 155) rfl (e_sV (as := [_, _, _]) (fun _ => rfl) (Or.inl rfl) rfl (hs.o rfl) rfl rfl (Nat.le_of_ble_eq_true rfl) (Nat.le_of_ble_eq_true rfl) rfl) rfl rfl ?_
    refine qev.mono h (fun v _ I10 _ h => ?_)
    obtain ⟨rfl, h⟩ := h
    refine ⟨rfl, ?_⟩
    refine e_next (pc' := 156) rfl rfl ?_
    refine e_next (pc' := 157) rfl rfl ?_
    refine e_getR (pc' := 160) rfl rfl (hs.o rfl) (hs.a rfl) ?_
    refine e_next (pc' := 161) rfl rfl ?_
    refine e_getR (pc' := 164) rfl rfl (hs.o rfl) (hs.a rfl) ?_
    refine e_ciV (pc' := 167) rfl (e_sV (as := [_, _]) (fun _ => rfl) (Or.inl rfl) rfl (hs.o rfl) rfl rfl (Nat.le_of_ble_eq_true rfl) (Nat.le_of_ble_eq_true rfl) rfl) rfl rfl ?_
    refine qev.mono h (fun v _ I11 _ h => ?_)
    obtain ⟨rfl, h⟩ := h
    refine ⟨rfl, ?_⟩
    refine e_next (pc' := 168) rfl rfl ?_
    refine e_next (pc' := 169) rfl rfl ?_
    refine e_getR (pc' := 172) rfl rfl (hs.o rfl) (hs.a rfl) ?_
    refine e_next (pc' := 173) rfl rfl ?_
    refine e_getR (pc' := 176) rfl rfl (hs.o rfl) (hs.a rfl) ?_
    refine e_iconst (pc' := 177) rfl rfl kc_2 ?_
    refine e_aaldR 2 (pc' := 178) rfl rfl (hs.k rfl) rfl rfl (by decide) (by decide) (hs.cubic (j := 2) (by decide)) ?_
    refine e_iconst (pc' := 179) rfl rfl kc_2 ?_
    refine e_ciV (pc' := 182) rfl (e_sV (as := [_, _, _]) (fun _ => rfl) (Or.inl rfl) rfl (hs.o rfl) rfl rfl (Nat.le_of_ble_eq_true rfl) (Nat.le_of_ble_eq_true rfl) rfl) rfl rfl ?_
    refine qev.mono h (fun v _ I12 _ h => ?_)
    obtain ⟨rfl, h⟩ := h
    refine ⟨rfl, ?_⟩
    refine e_next (pc' := 183) rfl rfl ?_
    refine e_next (pc' := 184) rfl rfl ?_
    refine e_getR (pc' := 187) rfl rfl (hs.o rfl) (hs.a rfl) ?_
    refine e_next (pc' := 188) rfl rfl ?_
    refine e_getR (pc' := 191) rfl rfl (hs.o rfl) (hs.a rfl) ?_
    refine e_ciV (pc' := 194) rfl (e_sV (as := [_, _]) (fun _ => rfl) (Or.inl rfl) rfl (hs.o rfl) rfl rfl (Nat.le_of_ble_eq_true rfl) (Nat.le_of_ble_eq_true rfl) rfl) rfl rfl ?_
    refine qev.mono h (fun v _ I13 _ h => ?_)
    obtain ⟨rfl, h⟩ := h
    refine ⟨rfl, ?_⟩
    refine e_next (pc' := 195) rfl rfl ?_
    refine e_next (pc' := 196) rfl rfl ?_
    refine e_getR (pc' := 199) rfl rfl (hs.o rfl) (hs.a rfl) ?_
    refine e_next (pc' := 200) rfl rfl ?_
    refine e_getR (pc' := 203) rfl rfl (hs.o rfl) (hs.a rfl) ?_
    refine e_iconst (pc' := 204) rfl rfl kc_1 ?_
    refine e_aaldR 1 (pc' := 205) rfl rfl (hs.k rfl) rfl rfl (by decide) (by decide) (hs.cubic (j := 1) (by decide)) ?_
    refine e_iconst (pc' := 206) rfl rfl kc_1 ?_
    refine e_ciV (pc' := 209) rfl (e_sV (as := [_, _, _]) (fun _ => rfl) (Or.inl rfl) rfl (hs.o rfl) rfl rfl (Nat.le_of_ble_eq_true rfl) (Nat.le_of_ble_eq_true rfl) rfl) rfl rfl ?_
    refine qev.mono h (fun v _ I14 _ h => ?_)
    obtain ⟨rfl, h⟩ := h
    refine ⟨rfl, ?_⟩
    refine e_next (pc' := 210) rfl rfl ?_
    refine e_ciV (pc' := 213) rfl (e_sV (as := []) (fun _ => rfl) (Or.inl rfl) rfl (hs.o rfl) rfl rfl (Nat.le_of_ble_eq_true rfl) (Nat.le_of_ble_eq_true rfl) rfl) rfl rfl ?_
    refine qev.mono h (fun v _ I15 _ h => ?_)
    obtain ⟨rfl, h⟩ := h
    refine ⟨rfl, ?_⟩
    refine e_next (pc' := 214) rfl rfl ?_
    refine e_iconst (pc' := 215) rfl rfl kc_2 ?_
    refine e_next (pc' := 216) rfl rfl ?_
    refine e_next (pc' := 217) (ls' := [_, _, _, _]) rfl rfl ?_
    refine e_next (pc' := 20) rfl rfl ?_
    exact h
theorem w30 {d : Nat} {o0 : Nat} {n_o0 : Nat} {g : qG} {I : qI} {J : qJ} {Q : qQ} (h_o0 : qCod g o0 n_o0) (h : Q none g (qw (qw I o0 3 (nI 0)) o0 4 (nI 0)) J) : qC d 30 [.ref o0] g I J Q := by
  show qev d 30 (0, [.ref o0], [], g, I, J) Q
  refine e_next (pc' := 1) rfl rfl ?_
  refine e_iconst (pc' := 2) rfl rfl kc_0 ?_
  refine e_putI (pc' := 5) rfl rfl h_o0.o ?_
  refine e_next (pc' := 6) rfl rfl ?_
  refine e_iconst (pc' := 7) rfl rfl kc_0 ?_
  refine e_putI (pc' := 10) rfl rfl h_o0.o ?_
  exact qev_ret rfl rfl h
theorem w31 {d : Nat} {o0 : Nat} {n_o0 : Nat} {x1 : Int32} {g : qG} {I : qI} {J : qJ} {Q : qQ} (h_o0 : qCod g o0 n_o0) (h : (((I o0 3) < (nI 8) → ∃ k1, (I o0 3) = nI k1 ∧ k1 < 8 ∧ Q (some (.int (nI 1))) g (qw I (o0 + 2) k1 x1) J) ∧ (¬ (I o0 3) < (nI 8) → Q (some (.int (nI 0))) g I J))) : qC d 31 [.ref o0, .int x1] g I J Q := by
  show qev d 31 (0, [.ref o0, .int x1], [], g, I, J) Q
  refine e_next (pc' := 1) rfl rfl ?_
  refine e_getI (pc' := 4) rfl (Or.inl rfl) rfl h_o0.o ?_
  refine e_bipush (pc' := 6) rfl rfl kb_8 ?_
  refine e_icmp ((I o0 3) < (nI 8)) (pc' := 9) rfl rfl e_d (fun hc => ?_) (fun hc => ?_)
  · replace h := h.1 hc
    refine e_next (pc' := 12) rfl rfl ?_
    refine e_getR (pc' := 15) rfl rfl h_o0.o h_o0.a2 ?_
    refine e_next (pc' := 16) rfl rfl ?_
    refine e_getI (pc' := 19) rfl (Or.inl rfl) rfl h_o0.o ?_
    refine e_next (pc' := 20) rfl rfl ?_
    obtain ⟨k1, hi_k1, hj_k1, h⟩ := h
    refine e_iast k1 (pc' := 21) rfl rfl h_o0.k2 hi_k1 hj_k1 (by decide) ?_
    refine e_iconst (pc' := 22) rfl rfl kc_1 ?_
    exact e_zret rfl (Or.inr nI_one) h
  · replace h := h.2 hc
    refine e_iconst (pc' := 10) rfl rfl kc_0 ?_
    exact e_zret rfl (Or.inl nI_0) h
theorem w32 {d : Nat} {o0 : Nat} {n_o0 : Nat} {g : qG} {I : qI} {J : qJ} {Q : qQ} (h_o0 : qCod g o0 n_o0) (h : (((I o0 3) < (nI 8) → ∃ k1, ((qw I o0 3 ((I o0 3) + (nI 1))) o0 3) = nI k1 ∧ k1 < 9 ∧ Q (some (.int (nI 1))) g (qw (qw I o0 3 ((I o0 3) + (nI 1))) (o0 + 1) k1 ((qw I o0 3 ((I o0 3) + (nI 1))) o0 4)) J) ∧ (¬ (I o0 3) < (nI 8) → Q (some (.int (nI 0))) g I J))) : qC d 32 [.ref o0] g I J Q := by
  show qev d 32 (0, [.ref o0], [], g, I, J) Q
  refine e_next (pc' := 1) rfl rfl ?_
  refine e_getI (pc' := 4) rfl (Or.inl rfl) rfl h_o0.o ?_
  refine e_bipush (pc' := 6) rfl rfl kb_8 ?_
  refine e_icmp ((I o0 3) < (nI 8)) (pc' := 9) rfl rfl e_d (fun hc => ?_) (fun hc => ?_)
  · replace h := h.1 hc
    refine e_next (pc' := 12) rfl rfl ?_
    refine e_next (pc' := 13) rfl rfl ?_
    refine e_getI (pc' := 16) rfl (Or.inl rfl) rfl h_o0.o ?_
    refine e_iconst (pc' := 17) rfl rfl kc_1 ?_
    refine e_next (pc' := 18) rfl rfl ?_
    refine e_putI (pc' := 21) rfl rfl h_o0.o ?_
    refine e_next (pc' := 22) rfl rfl ?_
    refine e_getR (pc' := 25) rfl rfl h_o0.o h_o0.a1 ?_
    refine e_next (pc' := 26) rfl rfl ?_
    refine e_getI (pc' := 29) rfl (Or.inl rfl) rfl h_o0.o ?_
    refine e_next (pc' := 30) rfl rfl ?_
    refine e_getI (pc' := 33) rfl (Or.inl rfl) rfl h_o0.o ?_
    obtain ⟨k1, hi_k1, hj_k1, h⟩ := h
    refine e_iast k1 (pc' := 34) rfl rfl h_o0.k1 hi_k1 hj_k1 (by decide) ?_
    refine e_iconst (pc' := 35) rfl rfl kc_1 ?_
    exact e_zret rfl (Or.inr nI_one) h
  · replace h := h.2 hc
    refine e_iconst (pc' := 10) rfl rfl kc_0 ?_
    exact e_zret rfl (Or.inl nI_0) h
theorem w33 {d : Nat} {o0 : Nat} {n_o0 : Nat} {x1 : Int32} {x2 : Int32} {g : qG} {I : qI} {J : qJ} {Q : qQ} (h_o0 : qCod g o0 n_o0) (h : (((I o0 4) < (nI n_o0) → ∃ k1, (I o0 4) = nI k1 ∧ k1 < n_o0 ∧ Q (some (.int (nI 1))) g (qw (qw I (o0 + 3) k1 ((x1 * (nI 1000)) + x2)) o0 4 (((qw I (o0 + 3) k1 ((x1 * (nI 1000)) + x2)) o0 4) + (nI 1))) J) ∧ (¬ (I o0 4) < (nI n_o0) → Q (some (.int (nI 0))) g I J))) : qC d 33 [.ref o0, .int x1, .int x2] g I J Q := by
  show qev d 33 (0, [.ref o0, .int x1, .int x2], [], g, I, J) Q
  refine e_next (pc' := 1) rfl rfl ?_
  refine e_getI (pc' := 4) rfl (Or.inl rfl) rfl h_o0.o ?_
  refine e_next (pc' := 5) rfl rfl ?_
  refine e_getR (pc' := 8) rfl rfl h_o0.o h_o0.a0 ?_
  refine e_alen (pc' := 9) rfl rfl h_o0.k0 rfl rfl ?_
  refine e_icmp ((I o0 4) < (nI n_o0)) (pc' := 12) rfl rfl e_d (fun hc => ?_) (fun hc => ?_)
  · replace h := h.1 hc
    refine e_next (pc' := 15) rfl rfl ?_
    refine e_getR (pc' := 18) rfl rfl h_o0.o h_o0.a0 ?_
    refine e_next (pc' := 19) rfl rfl ?_
    refine e_getI (pc' := 22) rfl (Or.inl rfl) rfl h_o0.o ?_
    refine e_next (pc' := 23) rfl rfl ?_
    refine e_sipush (pc' := 26) rfl rfl ks_1000 ?_
    refine e_next (pc' := 27) rfl rfl ?_
    refine e_next (pc' := 28) rfl rfl ?_
    refine e_next (pc' := 29) rfl rfl ?_
    obtain ⟨k1, hi_k1, hj_k1, h⟩ := h
    refine e_iast k1 (pc' := 30) rfl rfl h_o0.k0 hi_k1 hj_k1 h_o0.n ?_
    refine e_next (pc' := 31) rfl rfl ?_
    refine e_next (pc' := 32) rfl rfl ?_
    refine e_getI (pc' := 35) rfl (Or.inl rfl) rfl h_o0.o ?_
    refine e_iconst (pc' := 36) rfl rfl kc_1 ?_
    refine e_next (pc' := 37) rfl rfl ?_
    refine e_putI (pc' := 40) rfl rfl h_o0.o ?_
    refine e_iconst (pc' := 41) rfl rfl kc_1 ?_
    exact e_zret rfl (Or.inr nI_one) h
  · replace h := h.2 hc
    refine e_iconst (pc' := 13) rfl rfl kc_0 ?_
    exact e_zret rfl (Or.inl nI_0) h
theorem w34 {d : Nat} {o0 : Nat} {n_o0 : Nat} {x1 : Int32} {g : qG} {I : qI} {J : qJ} {Q : qQ} (h_o0 : qCod g o0 n_o0) (h : ((x1 < 0 → Q (some (.int (nI 0))) g I J) ∧ (¬ x1 < 0 → ((x1 < (I o0 4) → ∃ k1, x1 = nI k1 ∧ k1 < n_o0 ∧ Q (some (.int ((I (o0 + 3) k1) / (nI 1000)))) g I J) ∧ (¬ x1 < (I o0 4) → Q (some (.int (nI 0))) g I J))))) : qC d 34 [.ref o0, .int x1] g I J Q := by
  show qev d 34 (0, [.ref o0, .int x1], [], g, I, J) Q
  refine e_next (pc' := 1) rfl rfl ?_
  refine e_if (x1 < 0) (pc' := 4) rfl rfl e_d (fun hc => ?_) (fun hc => ?_)
  · replace h := h.1 hc
    refine e_iconst (pc' := 13) rfl rfl kc_0 ?_
    refine e_next (pc' := 26) rfl rfl ?_
    exact e_iret rfl h
  · replace h := h.2 hc
    refine e_next (pc' := 5) rfl rfl ?_
    refine e_next (pc' := 6) rfl rfl ?_
    refine e_getI (pc' := 9) rfl (Or.inl rfl) rfl h_o0.o ?_
    refine e_icmp (x1 < (I o0 4)) (pc' := 12) rfl rfl e_d (fun hc => ?_) (fun hc => ?_)
    · replace h := h.1 hc
      refine e_next (pc' := 17) rfl rfl ?_
      refine e_getR (pc' := 20) rfl rfl h_o0.o h_o0.a0 ?_
      refine e_next (pc' := 21) rfl rfl ?_
      obtain ⟨k1, hi_k1, hj_k1, h⟩ := h
      refine e_iald k1 (pc' := 22) rfl rfl h_o0.k0 hi_k1 hj_k1 h_o0.n ?_
      refine e_sipush (pc' := 25) rfl rfl ks_1000 ?_
      refine e_idiv (pc' := 26) rfl rfl (by decide) ?_
      exact e_iret rfl h
    · replace h := h.2 hc
      refine e_iconst (pc' := 13) rfl rfl kc_0 ?_
      refine e_next (pc' := 26) rfl rfl ?_
      exact e_iret rfl h
theorem w35 {d : Nat} {o0 : Nat} {n_o0 : Nat} {x1 : Int32} {g : qG} {I : qI} {J : qJ} {Q : qQ} (h_o0 : qCod g o0 n_o0) (h : ((x1 < 0 → Q (some (.int (nI 0))) g I J) ∧ (¬ x1 < 0 → ((x1 < (I o0 4) → ∃ k1, x1 = nI k1 ∧ k1 < n_o0 ∧ Q (some (.int (qrem (I (o0 + 3) k1) (nI 1000)))) g I J) ∧ (¬ x1 < (I o0 4) → Q (some (.int (nI 0))) g I J))))) : qC d 35 [.ref o0, .int x1] g I J Q := by
  show qev d 35 (0, [.ref o0, .int x1], [], g, I, J) Q
  refine e_next (pc' := 1) rfl rfl ?_
  refine e_if (x1 < 0) (pc' := 4) rfl rfl e_d (fun hc => ?_) (fun hc => ?_)
  · replace h := h.1 hc
    refine e_iconst (pc' := 13) rfl rfl kc_0 ?_
    refine e_next (pc' := 26) rfl rfl ?_
    exact e_iret rfl h
  · replace h := h.2 hc
    refine e_next (pc' := 5) rfl rfl ?_
    refine e_next (pc' := 6) rfl rfl ?_
    refine e_getI (pc' := 9) rfl (Or.inl rfl) rfl h_o0.o ?_
    refine e_icmp (x1 < (I o0 4)) (pc' := 12) rfl rfl e_d (fun hc => ?_) (fun hc => ?_)
    · replace h := h.1 hc
      refine e_next (pc' := 17) rfl rfl ?_
      refine e_getR (pc' := 20) rfl rfl h_o0.o h_o0.a0 ?_
      refine e_next (pc' := 21) rfl rfl ?_
      obtain ⟨k1, hi_k1, hj_k1, h⟩ := h
      refine e_iald k1 (pc' := 22) rfl rfl h_o0.k0 hi_k1 hj_k1 h_o0.n ?_
      refine e_sipush (pc' := 25) rfl rfl ks_1000 ?_
      refine e_irem (pc' := 26) rfl rfl (by decide) ?_
      exact e_iret rfl h
    · replace h := h.2 hc
      refine e_iconst (pc' := 13) rfl rfl kc_0 ?_
      refine e_next (pc' := 26) rfl rfl ?_
      exact e_iret rfl h
theorem w38 {d : Nat}  {g : qG} {I : qI} {J : qJ} {Q : qQ} (hs : qSh g)  (h : Q none g (qw I 101 2 (nI 0)) J) : qC d 38 [.ref 101] g I J Q := by
  show qev d 38 (0, [.ref 101], [], g, I, J) Q
  refine e_next (pc' := 1) rfl rfl ?_
  refine e_iconst (pc' := 2) rfl rfl kc_0 ?_
  refine e_putI (pc' := 5) rfl rfl (hs.o rfl) ?_
  exact qev_ret rfl rfl h
theorem w40 {d : Nat} {x1 : Nat} {g : qG} {I : qI} {J : qJ} {Q : qQ} (hs : qSh g) (h_x1 : qSta g x1) (h : (((I 101 2) = 0 → Q (some (.int (-1))) g I J) ∧ (¬ (I 101 2) = 0 → ∃ k1, (qrem (((I 101 1) + (nI 40)) - (nI 1)) (nI 40)) = nI k1 ∧ k1 < 40 ∧ (((g.2.1 102 k1) = none → Q (some (.int (-1))) g I J) ∧ (∀ b1, (g.2.1 102 k1) = some b1 → qSta g b1 ∧ ∃ k2, (qrem (((I 101 1) + (nI 40)) - (nI 1)) (nI 40)) = nI k2 ∧ k2 < 40 ∧ ∃ b2, (g.2.1 102 k2) = some b2 ∧ qSta g b2 ∧ qC d 80 [.ref x1, .ref b2] g I J (fun v _ I1 _ => v = none ∧ Q (some (.int ((qw (qw I1 101 1 (qrem (((I 101 1) + (nI 40)) - (nI 1)) (nI 40))) 101 2 (((qw I1 101 1 (qrem (((I 101 1) + (nI 40)) - (nI 1)) (nI 40))) 101 2) - (nI 1))) 101 2))) g (qw (qw I1 101 1 (qrem (((I 101 1) + (nI 40)) - (nI 1)) (nI 40))) 101 2 (((qw I1 101 1 (qrem (((I 101 1) + (nI 40)) - (nI 1)) (nI 40))) 101 2) - (nI 1))) J)))))) : qC (d + 1) 40 [.ref 101, .ref x1] g I J Q := by
  show qev (d + 1) 40 (0, [.ref 101, .ref x1, qpad], [], g, I, J) Q
  refine e_next (pc' := 1) rfl rfl ?_
  refine e_getI (pc' := 4) rfl (Or.inl rfl) rfl (hs.o rfl) ?_
  refine e_bipush (pc' := 6) rfl rfl kb_40 ?_
  refine e_next (pc' := 7) rfl rfl ?_
  refine e_iconst (pc' := 8) rfl rfl kc_1 ?_
  refine e_next (pc' := 9) rfl rfl ?_
  refine e_bipush (pc' := 11) rfl rfl kb_40 ?_
  refine e_irem (pc' := 12) rfl rfl (by decide) ?_
  refine e_next (pc' := 13) (ls' := [_, _, _]) rfl rfl ?_
  refine e_next (pc' := 14) rfl rfl ?_
  refine e_getI (pc' := 17) rfl (Or.inl rfl) rfl (hs.o rfl) ?_
  refine e_if ((I 101 2) = 0) (pc' := 20) rfl rfl e_d (fun hc => ?_) (fun hc => ?_)
  · replace h := h.1 hc
    refine e_iconst (pc' := 30) rfl rfl kc_m1 ?_
    exact e_iret rfl h
  · replace h := h.2 hc
    refine e_next (pc' := 21) rfl rfl ?_
    refine e_getR (pc' := 24) rfl rfl (hs.o rfl) (hs.a rfl) ?_
    refine e_next (pc' := 25) rfl rfl ?_
    obtain ⟨k1, hi_k1, hj_k1, h⟩ := h
    refine e_aald (v := g.2.1 102 k1) k1 (pc' := 26) rfl rfl (hs.k rfl) rfl hi_k1 hj_k1 (by decide) rfl ?_
    refine e_ifnonnull (pc' := 29) rfl rfl (fun b1 hc => ?_) (fun hc => ?_)
    · have h2 := h.2 b1 hc
      clear h
      obtain ⟨h_b1, h⟩ := h2
      try rw [hc]
      refine e_next (pc' := 32) rfl rfl ?_
      refine e_next (pc' := 33) rfl rfl ?_
      refine e_getR (pc' := 36) rfl rfl (hs.o rfl) (hs.a rfl) ?_
      refine e_next (pc' := 37) rfl rfl ?_
      obtain ⟨k2, hi_k2, hj_k2, h⟩ := h
      refine e_aald (v := g.2.1 102 k2) k2 (pc' := 38) rfl rfl (hs.k rfl) rfl hi_k2 hj_k2 (by decide) rfl ?_
      obtain ⟨b2, hc_b2, h_b2, h⟩ := h
      try rw [hc_b2]
      refine e_ciV (pc' := 41) rfl (e_sV (as := [_]) (fun _ => rfl) (Or.inl rfl) rfl h_x1.o rfl rfl (Nat.le_of_ble_eq_true rfl) (Nat.le_of_ble_eq_true rfl) rfl) rfl rfl ?_
      refine qev.mono h (fun v _ I1 _ h => ?_)
      obtain ⟨rfl, h⟩ := h
      refine ⟨rfl, ?_⟩
      refine e_next (pc' := 42) rfl rfl ?_
      refine e_next (pc' := 43) rfl rfl ?_
      refine e_putI (pc' := 46) rfl rfl (hs.o rfl) ?_
      refine e_next (pc' := 47) rfl rfl ?_
      refine e_next (pc' := 48) rfl rfl ?_
      refine e_getI (pc' := 51) rfl (Or.inl rfl) rfl (hs.o rfl) ?_
      refine e_iconst (pc' := 52) rfl rfl kc_1 ?_
      refine e_next (pc' := 53) rfl rfl ?_
      refine e_putI (pc' := 56) rfl rfl (hs.o rfl) ?_
      refine e_next (pc' := 57) rfl rfl ?_
      refine e_getI (pc' := 60) rfl (Or.inl rfl) rfl (hs.o rfl) ?_
      exact e_iret rfl h
    · replace h := h.1 hc
      try rw [hc]
      refine e_iconst (pc' := 30) rfl rfl kc_m1 ?_
      exact e_iret rfl h
theorem w42 {d : Nat}  {g : qG} {I : qI} {J : qJ} {Q : qQ} (hs : qSh g)  (h : Q (some (va_rf (some 35))) g I J) : qC d 42 [.ref 33] g I J Q := by
  show qev d 42 (0, [.ref 33], [], g, I, J) Q
  refine e_next (pc' := 1) rfl rfl ?_
  refine e_getR (pc' := 4) rfl rfl (hs.o rfl) (hs.a rfl) ?_
  refine e_iconst (pc' := 5) rfl rfl kc_0 ?_
  refine e_aaldR 0 (pc' := 6) rfl rfl (hs.k rfl) rfl rfl (by decide) (by decide) (hs.stack (j := 0) (by decide)) ?_
  exact e_aret (v := (some 35)) rfl h
theorem w43 {d : Nat} {x1 : Nat} {n_x1 : Nat} {x2 : Int32} {x3 : Nat} {g : qG} {I : qI} {J : qJ} {Q : qQ} (hs : qSh g) (h_x1 : qCod g x1 n_x1) (h_x3 : qSta g x3) (h : ((x2 < 0 → Q (some (.int (nI 1))) g (qw I 33 2 (nI 0)) J) ∧ (¬ x2 < 0 → ((x2 < ((qw I 33 2 (nI 0)) x1 3) → ∃ k1, x2 = nI k1 ∧ k1 < 9 ∧ qev (d + 1) 43 (27, [.ref 33, .ref x1, .int x2, .ref x3, .int ((qw I 33 2 (nI 0)) (x1 + 1) k1), qpad, qpad, qpad], [], g, (qw I 33 2 (nI 0)), J) Q) ∧ (¬ x2 < ((qw I 33 2 (nI 0)) x1 3) → Q (some (.int (nI 1))) g (qw I 33 2 (nI 0)) J))))) : qC (d + 1) 43 [.ref 33, .ref x1, .int x2, .ref x3] g I J Q := by
  show qev (d + 1) 43 (0, [.ref 33, .ref x1, .int x2, .ref x3, qpad, qpad, qpad, qpad], [], g, I, J) Q
  refine e_next (pc' := 1) rfl rfl ?_
  refine e_iconst (pc' := 2) rfl rfl kc_0 ?_
  refine e_putI (pc' := 5) rfl rfl (hs.o rfl) ?_
  refine e_next (pc' := 6) rfl rfl ?_
  refine e_if (x2 < 0) (pc' := 9) rfl rfl e_d (fun hc => ?_) (fun hc => ?_)
  · replace h := h.1 hc
    refine e_iconst (pc' := 18) rfl rfl kc_1 ?_
    exact e_iret rfl h
  · replace h := h.2 hc
    refine e_next (pc' := 10) rfl rfl ?_
    refine e_next (pc' := 11) rfl rfl ?_
    refine e_getI (pc' := 14) rfl (Or.inl rfl) rfl h_x1.o ?_
    refine e_icmp (x2 < ((qw I 33 2 (nI 0)) x1 3)) (pc' := 17) rfl rfl e_d (fun hc => ?_) (fun hc => ?_)
    · replace h := h.1 hc
      refine e_next (pc' := 20) rfl rfl ?_
      refine e_getR (pc' := 23) rfl rfl h_x1.o h_x1.a1 ?_
      refine e_next (pc' := 24) rfl rfl ?_
      obtain ⟨k1, hi_k1, hj_k1, h⟩ := h
      refine e_iald k1 (pc' := 25) rfl rfl h_x1.k1 hi_k1 hj_k1 (by decide) ?_
      refine e_next (pc' := 27) (ls' := [_, _, _, _, _, _, _, _]) rfl rfl ?_
      exact h
    · replace h := h.2 hc
      refine e_iconst (pc' := 18) rfl rfl kc_1 ?_
      exact e_iret rfl h
theorem w43_27 {d : Nat} {x1 : Nat} {n_x1 : Nat} {i2 : Int32} {x3 : Nat} {i4 : Int32} {w5 : Value} {w6 : Value} {w7 : Value} {g : qG} {I : qI} {J : qJ} {Q : qQ} (hs : qSh g) (h_x1 : qCod g x1 n_x1) (h_x3 : qSta g x3) (h : ∃ k1, (i2 + (nI 1)) = nI k1 ∧ k1 < 9 ∧ (((I (x1 + 1) k1) ≤ i4 → Q (some (.int (-1))) g I J) ∧ (¬ (I (x1 + 1) k1) ≤ i4 → qC d 34 [.ref x1, .int i4] g I J (fun v _ _ _ => ∃ r1, v = some (.int r1) ∧ qC d 35 [.ref x1, .int i4] g I J (fun v _ _ _ => ∃ r2, v = some (.int r2) ∧ (((nI 3) ≤ r1 → (((nI 11) ≤ r1 → qC d 46 [.ref 33, .int r1] g I J (fun v _ I1 _ => ∃ r3, v = some (.int r3) ∧ ((r3 = (-1) → qev (d + 1) 43 (27, [.ref 33, .ref x1, .int i2, .ref x3, .int (i4 + (nI 1)), .int r1, .int r2, .int r3], [], g, I1, J) Q) ∧ (¬ r3 = (-1) → Q (some (.int r3)) g I1 J)))) ∧ (¬ (nI 11) ≤ r1 → qC d 45 [.ref 33, .int r1, .int r2] g I J (fun v _ I2 _ => ∃ r4, v = some (.int r4) ∧ ((r4 = (-1) → qev (d + 1) 43 (27, [.ref 33, .ref x1, .int i2, .ref x3, .int (i4 + (nI 1)), .int r1, .int r2, .int r4], [], g, I2, J) Q) ∧ (¬ r4 = (-1) → Q (some (.int r4)) g I2 J)))))) ∧ (¬ (nI 3) ≤ r1 → qC d 44 [.ref 33, .int r1, .int r2, .ref x3] g I J (fun v _ I3 _ => ∃ r5, v = some (.int r5) ∧ ((r5 = (-1) → qev (d + 1) 43 (27, [.ref 33, .ref x1, .int i2, .ref x3, .int (i4 + (nI 1)), .int r1, .int r2, .int r5], [], g, I3, J) Q) ∧ (¬ r5 = (-1) → Q (some (.int r5)) g I3 J)))))))))) : qev (d + 1) 43 (27, [.ref 33, .ref x1, .int i2, .ref x3, .int i4, w5, w6, w7], [], g, I, J) Q := by
  refine e_next (pc' := 29) rfl rfl ?_
  refine e_next (pc' := 30) rfl rfl ?_
  refine e_getR (pc' := 33) rfl rfl h_x1.o h_x1.a1 ?_
  refine e_next (pc' := 34) rfl rfl ?_
  refine e_iconst (pc' := 35) rfl rfl kc_1 ?_
  refine e_next (pc' := 36) rfl rfl ?_
  obtain ⟨k1, hi_k1, hj_k1, h⟩ := h
  refine e_iald k1 (pc' := 37) rfl rfl h_x1.k1 hi_k1 hj_k1 (by decide) ?_
  refine e_icmp ((I (x1 + 1) k1) ≤ i4) (pc' := 40) rfl rfl e_d (fun hc => ?_) (fun hc => ?_)
  · replace h := h.1 hc
    refine e_iconst (pc' := 120) rfl rfl kc_m1 ?_
    exact e_iret rfl h
  · replace h := h.2 hc
    refine e_next (pc' := 41) rfl rfl ?_
    refine e_next (pc' := 43) rfl rfl ?_
    refine e_cpI (pc' := 46) rfl (e_sV (as := [_]) (fun _ => rfl) (Or.inl rfl) rfl h_x1.o rfl rfl (Nat.le_of_ble_eq_true rfl) (Nat.le_of_ble_eq_true rfl) rfl) rfl rfl rfl ?_
    refine qev.mono h (fun v _ _ _ h => ?_)
    obtain ⟨r1, rfl, h⟩ := h
    refine ⟨r1, rfl, ?_⟩
    refine e_next (pc' := 48) (ls' := [_, _, _, _, _, _, _, _]) rfl rfl ?_
    refine e_next (pc' := 49) rfl rfl ?_
    refine e_next (pc' := 51) rfl rfl ?_
    refine e_cpI (pc' := 54) rfl (e_sV (as := [_]) (fun _ => rfl) (Or.inl rfl) rfl h_x1.o rfl rfl (Nat.le_of_ble_eq_true rfl) (Nat.le_of_ble_eq_true rfl) rfl) rfl rfl rfl ?_
    refine qev.mono h (fun v _ _ _ h => ?_)
    obtain ⟨r2, rfl, h⟩ := h
    refine ⟨r2, rfl, ?_⟩
    refine e_next (pc' := 56) (ls' := [_, _, _, _, _, _, _, _]) rfl rfl ?_
    refine e_next (pc' := 58) rfl rfl ?_
    refine e_iconst (pc' := 59) rfl rfl kc_3 ?_
    refine e_icmp ((nI 3) ≤ r1) (pc' := 62) rfl rfl e_d (fun hc => ?_) (fun hc => ?_)
    · replace h := h.1 hc
      refine e_next (pc' := 78) rfl rfl ?_
      refine e_bipush (pc' := 80) rfl rfl kb_11 ?_
      refine e_icmp ((nI 11) ≤ r1) (pc' := 83) rfl rfl e_d (fun hc => ?_) (fun hc => ?_)
      · replace h := h.1 hc
        refine e_next (pc' := 97) rfl rfl ?_
        refine e_next (pc' := 99) rfl rfl ?_
        refine e_ciI (pc' := 102) rfl (e_sV (as := [_]) (fun _ => rfl) (Or.inl rfl) rfl (hs.o rfl) rfl rfl (Nat.le_of_ble_eq_true rfl) (Nat.le_of_ble_eq_true rfl) rfl) rfl rfl ?_
        refine qev.mono h (fun v _ I1 _ h => ?_)
        obtain ⟨r3, rfl, h⟩ := h
        refine ⟨r3, rfl, ?_⟩
        refine e_next (pc' := 104) (ls' := [_, _, _, _, _, _, _, _]) rfl rfl ?_
        refine e_next (pc' := 106) rfl rfl ?_
        refine e_iconst (pc' := 107) rfl rfl kc_m1 ?_
        refine e_icmp (r3 = (-1)) (pc' := 110) rfl rfl e_d (fun hc => ?_) (fun hc => ?_)
        · replace h := h.1 hc
          refine e_iinc (pc' := 116) (ls' := [_, _, _, _, _, _, _, _]) (v := (nI 1)) rfl rfl kc_1 rfl rfl ?_
          refine e_next (pc' := 27) rfl rfl ?_
          exact h
        · replace h := h.2 hc
          refine e_next (pc' := 112) rfl rfl ?_
          exact e_iret rfl h
      · replace h := h.2 hc
        refine e_next (pc' := 84) rfl rfl ?_
        refine e_next (pc' := 86) rfl rfl ?_
        refine e_next (pc' := 88) rfl rfl ?_
        refine e_ciI (pc' := 91) rfl (e_sV (as := [_, _]) (fun _ => rfl) (Or.inl rfl) rfl (hs.o rfl) rfl rfl (Nat.le_of_ble_eq_true rfl) (Nat.le_of_ble_eq_true rfl) rfl) rfl rfl ?_
        refine qev.mono h (fun v _ I2 _ h => ?_)
        obtain ⟨r4, rfl, h⟩ := h
        refine ⟨r4, rfl, ?_⟩
        refine e_next (pc' := 93) (ls' := [_, _, _, _, _, _, _, _]) rfl rfl ?_
        refine e_next (pc' := 104) rfl rfl ?_
        refine e_next (pc' := 106) rfl rfl ?_
        refine e_iconst (pc' := 107) rfl rfl kc_m1 ?_
        refine e_icmp (r4 = (-1)) (pc' := 110) rfl rfl e_d (fun hc => ?_) (fun hc => ?_)
        · replace h := h.1 hc
          refine e_iinc (pc' := 116) (ls' := [_, _, _, _, _, _, _, _]) (v := (nI 1)) rfl rfl kc_1 rfl rfl ?_
          refine e_next (pc' := 27) rfl rfl ?_
          exact h
        · replace h := h.2 hc
          refine e_next (pc' := 112) rfl rfl ?_
          exact e_iret rfl h
    · replace h := h.2 hc
      refine e_next (pc' := 63) rfl rfl ?_
      refine e_next (pc' := 65) rfl rfl ?_
      refine e_next (pc' := 67) rfl rfl ?_
      refine e_next (pc' := 68) rfl rfl ?_
      refine e_ciI (pc' := 71) rfl (e_sV (as := [_, _, _]) (fun _ => rfl) (Or.inl rfl) rfl (hs.o rfl) rfl rfl (Nat.le_of_ble_eq_true rfl) (Nat.le_of_ble_eq_true rfl) rfl) rfl rfl ?_
      refine qev.mono h (fun v _ I3 _ h => ?_)
      obtain ⟨r5, rfl, h⟩ := h
      refine ⟨r5, rfl, ?_⟩
      refine e_next (pc' := 73) (ls' := [_, _, _, _, _, _, _, _]) rfl rfl ?_
      refine e_next (pc' := 104) rfl rfl ?_
      refine e_next (pc' := 106) rfl rfl ?_
      refine e_iconst (pc' := 107) rfl rfl kc_m1 ?_
      refine e_icmp (r5 = (-1)) (pc' := 110) rfl rfl e_d (fun hc => ?_) (fun hc => ?_)
      · replace h := h.1 hc
        refine e_iinc (pc' := 116) (ls' := [_, _, _, _, _, _, _, _]) (v := (nI 1)) rfl rfl kc_1 rfl rfl ?_
        refine e_next (pc' := 27) rfl rfl ?_
        exact h
      · replace h := h.2 hc
        refine e_next (pc' := 112) rfl rfl ?_
        exact e_iret rfl h
theorem w44 {d : Nat} {x1 : Int32} {x2 : Int32} {x3 : Nat} {g : qG} {I : qI} {J : qJ} {Q : qQ} (hs : qSh g) (h_x3 : qSta g x3) (h : (((I 33 2) < (nI 24) → ∃ k1, (I 33 2) = nI k1 ∧ k1 < 24 ∧ ((x1 = 0 → qC d 5 [.ref 12, .ref (35 + 2 * k1), .int x2] g (qw I 33 2 ((I 33 2) + (nI 1))) J (fun v _ I3 _ => v = none ∧ Q (some (.int (-1))) g I3 J)) ∧ (¬ x1 = 0 → ((x1 = (nI 1) → qC d 6 [.ref 12, .ref (35 + 2 * k1)] g (qw I 33 2 ((I 33 2) + (nI 1))) J (fun v _ I2 _ => v = none ∧ Q (some (.int (-1))) g I2 J)) ∧ (¬ x1 = (nI 1) → qC d 82 [.ref x3, .int x2, .ref (35 + 2 * k1)] g (qw I 33 2 ((I 33 2) + (nI 1))) J (fun v _ I1 _ => v = none ∧ (((I1 (35 + 2 * k1) 1) = 0 → Q (some (.int (nI 0))) g I1 J) ∧ (¬ (I1 (35 + 2 * k1) 1) = 0 → Q (some (.int (-1))) g I1 J)))))))) ∧ (¬ (I 33 2) < (nI 24) → Q (some (.int (nI 1))) g I J))) : qC (d + 1) 44 [.ref 33, .int x1, .int x2, .ref x3] g I J Q := by
  show qev (d + 1) 44 (0, [.ref 33, .int x1, .int x2, .ref x3, qpad], [], g, I, J) Q
  refine e_next (pc' := 1) rfl rfl ?_
  refine e_getI (pc' := 4) rfl (Or.inl rfl) rfl (hs.o rfl) ?_
  refine e_bipush (pc' := 6) rfl rfl kb_24 ?_
  refine e_icmp ((I 33 2) < (nI 24)) (pc' := 9) rfl rfl e_d (fun hc => ?_) (fun hc => ?_)
  · replace h := h.1 hc
    refine e_next (pc' := 12) rfl rfl ?_
    refine e_getR (pc' := 15) rfl rfl (hs.o rfl) (hs.a rfl) ?_
    refine e_next (pc' := 16) rfl rfl ?_
    refine e_getI (pc' := 19) rfl (Or.inl rfl) rfl (hs.o rfl) ?_
    obtain ⟨k1, hi_k1, hj_k1, h⟩ := h
    refine e_aaldR k1 (pc' := 20) rfl rfl (hs.k rfl) rfl hi_k1 hj_k1 (by decide) (hs.stack hj_k1) ?_
    refine e_next (pc' := 22) (ls' := [_, _, _, _, _]) rfl rfl ?_
    refine e_next (pc' := 23) rfl rfl ?_
    refine e_next (pc' := 24) rfl rfl ?_
    refine e_getI (pc' := 27) rfl (Or.inl rfl) rfl (hs.o rfl) ?_
    refine e_iconst (pc' := 28) rfl rfl kc_1 ?_
    refine e_next (pc' := 29) rfl rfl ?_
    refine e_putI (pc' := 32) rfl rfl (hs.o rfl) ?_
    refine e_next (pc' := 33) rfl rfl ?_
    refine e_if (¬ x1 = 0) (pc' := 36) rfl rfl e_d (fun hc => ?_) (fun hc => ?_)
    · replace h := h.2 hc
      refine e_next (pc' := 49) rfl rfl ?_
      refine e_iconst (pc' := 50) rfl rfl kc_1 ?_
      refine e_icmp (¬ x1 = (nI 1)) (pc' := 53) rfl rfl e_d (fun hc => ?_) (fun hc => ?_)
      · replace h := h.2 hc
        refine e_next (pc' := 65) rfl rfl ?_
        refine e_next (pc' := 66) rfl rfl ?_
        refine e_next (pc' := 68) rfl rfl ?_
        refine e_ciV (pc' := 71) rfl (e_sV (as := [_, _]) (fun _ => rfl) (Or.inl rfl) rfl h_x3.o rfl rfl (Nat.le_of_ble_eq_true rfl) (Nat.le_of_ble_eq_true rfl) rfl) rfl rfl ?_
        refine qev.mono h (fun v _ I1 _ h => ?_)
        obtain ⟨rfl, h⟩ := h
        refine ⟨rfl, ?_⟩
        refine e_next (pc' := 73) rfl rfl ?_
        refine e_getI (pc' := 76) rfl (Or.inl rfl) rfl (hs.stackS hj_k1).o ?_
        refine e_if (¬ (I1 (35 + 2 * k1) 1) = 0) (pc' := 79) rfl rfl e_d (fun hc => ?_) (fun hc => ?_)
        · replace h := h.2 hc
          refine e_iconst (pc' := 84) rfl rfl kc_m1 ?_
          exact e_iret rfl h
        · replace h := h.1 (Decidable.not_not.mp hc)
          refine e_iconst (pc' := 80) rfl rfl kc_0 ?_
          refine e_next (pc' := 84) rfl rfl ?_
          exact e_iret rfl h
      · replace h := h.1 (Decidable.not_not.mp hc)
        refine e_next (pc' := 54) rfl rfl ?_
        refine e_getR (pc' := 57) rfl rfl (hs.o rfl) (hs.a rfl) ?_
        refine e_next (pc' := 59) rfl rfl ?_
        refine e_ciV (pc' := 62) rfl (e_sV (as := [_]) (fun _ => rfl) (Or.inl rfl) rfl (hs.o rfl) rfl rfl (Nat.le_of_ble_eq_true rfl) (Nat.le_of_ble_eq_true rfl) rfl) rfl rfl ?_
        refine qev.mono h (fun v _ I2 _ h => ?_)
        obtain ⟨rfl, h⟩ := h
        refine ⟨rfl, ?_⟩
        refine e_iconst (pc' := 63) rfl rfl kc_m1 ?_
        exact e_iret rfl h
    · replace h := h.1 (Decidable.not_not.mp hc)
      refine e_next (pc' := 37) rfl rfl ?_
      refine e_getR (pc' := 40) rfl rfl (hs.o rfl) (hs.a rfl) ?_
      refine e_next (pc' := 42) rfl rfl ?_
      refine e_next (pc' := 43) rfl rfl ?_
      refine e_ciV (pc' := 46) rfl (e_sV (as := [_, _]) (fun _ => rfl) (Or.inl rfl) rfl (hs.o rfl) rfl rfl (Nat.le_of_ble_eq_true rfl) (Nat.le_of_ble_eq_true rfl) rfl) rfl rfl ?_
      refine qev.mono h (fun v _ I3 _ h => ?_)
      obtain ⟨rfl, h⟩ := h
      refine ⟨rfl, ?_⟩
      refine e_iconst (pc' := 47) rfl rfl kc_m1 ?_
      exact e_iret rfl h
  · replace h := h.2 hc
    refine e_iconst (pc' := 10) rfl rfl kc_1 ?_
    exact e_iret rfl h
theorem w45 {d : Nat} {x1 : Int32} {x2 : Int32} {g : qG} {I : qI} {J : qJ} {Q : qQ} (hs : qSh g)  (h : (((nI 1) ≤ (I 33 2) → ∃ k1, ((I 33 2) - (nI 1)) = nI k1 ∧ k1 < 24 ∧ ((x1 = nI 4 → qC d 13 [.ref 12, .ref (35 + 2 * k1)] g I J (fun v _ I1 _ => ∃ r1, v = some (.int r1) ∧ Q (some (.int r1)) g I1 J)) ∧ (x1 = nI 5 → qC d 14 [.ref 12, .ref (35 + 2 * k1)] g I J (fun v _ I2 _ => ∃ r2, v = some (.int r2) ∧ Q (some (.int r2)) g I2 J)) ∧ (x1 = nI 6 → qC d 15 [.ref 12, .ref (35 + 2 * k1)] g I J (fun v _ I3 _ => ∃ r3, v = some (.int r3) ∧ Q (some (.int r3)) g I3 J)) ∧ (x1 = nI 7 → qC d 16 [.ref 12, .ref (35 + 2 * k1)] g I J (fun v _ I4 _ => ∃ r4, v = some (.int r4) ∧ Q (some (.int r4)) g I4 J)) ∧ (x1 = nI 8 → qC d 17 [.ref 12, .ref (35 + 2 * k1)] g I J (fun v _ I5 _ => ∃ r5, v = some (.int r5) ∧ Q (some (.int r5)) g I5 J)) ∧ (x1 = nI 9 → qC d 18 [.ref 12, .ref (35 + 2 * k1), .int x2] g I J (fun v _ I6 _ => ∃ r6, v = some (.int r6) ∧ Q (some (.int r6)) g I6 J)) ∧ (x1 = nI 10 → qC d 75 [.ref (35 + 2 * k1), .int x2] g I J (fun v _ I7 _ => v = none ∧ Q (some (.int (-1))) g I7 J)) ∧ (¬ x1 = nI 4 ∧ ¬ x1 = nI 5 ∧ ¬ x1 = nI 6 ∧ ¬ x1 = nI 7 ∧ ¬ x1 = nI 8 ∧ ¬ x1 = nI 9 ∧ ¬ x1 = nI 10 → qC d 10 [.ref 12, .ref (35 + 2 * k1), .int x2] g I J (fun v _ I8 _ => v = none ∧ Q (some (.int (-1))) g I8 J)))) ∧ (¬ (nI 1) ≤ (I 33 2) → Q (some (.int (nI 1))) g I J))) : qC (d + 1) 45 [.ref 33, .int x1, .int x2] g I J Q := by
  show qev (d + 1) 45 (0, [.ref 33, .int x1, .int x2, qpad], [], g, I, J) Q
  refine e_next (pc' := 1) rfl rfl ?_
  refine e_getI (pc' := 4) rfl (Or.inl rfl) rfl (hs.o rfl) ?_
  refine e_iconst (pc' := 5) rfl rfl kc_1 ?_
  refine e_icmp ((nI 1) ≤ (I 33 2)) (pc' := 8) rfl rfl e_d (fun hc => ?_) (fun hc => ?_)
  · replace h := h.1 hc
    refine e_next (pc' := 11) rfl rfl ?_
    refine e_getR (pc' := 14) rfl rfl (hs.o rfl) (hs.a rfl) ?_
    refine e_next (pc' := 15) rfl rfl ?_
    refine e_getI (pc' := 18) rfl (Or.inl rfl) rfl (hs.o rfl) ?_
    refine e_iconst (pc' := 19) rfl rfl kc_1 ?_
    refine e_next (pc' := 20) rfl rfl ?_
    obtain ⟨k1, hi_k1, hj_k1, h⟩ := h
    refine e_aaldR k1 (pc' := 21) rfl rfl (hs.k rfl) rfl hi_k1 hj_k1 (by decide) (hs.stack hj_k1) ?_
    refine e_next (pc' := 22) (ls' := [_, _, _, _]) rfl rfl ?_
    refine e_next (pc' := 23) rfl rfl ?_
    by_cases hc4 : x1 = nI 4
    · refine e_tswI (t := 64) 4 rfl hc4 (by decide) (by decide) ?_
      replace h := h.1 hc4
      refine e_next (pc' := 65) rfl rfl ?_
      refine e_getR (pc' := 68) rfl rfl (hs.o rfl) (hs.a rfl) ?_
      refine e_next (pc' := 69) rfl rfl ?_
      refine e_ciI (pc' := 72) rfl (e_sV (as := [_]) (fun _ => rfl) (Or.inl rfl) rfl (hs.o rfl) rfl rfl (Nat.le_of_ble_eq_true rfl) (Nat.le_of_ble_eq_true rfl) rfl) rfl rfl ?_
      refine qev.mono h (fun v _ I1 _ h => ?_)
      obtain ⟨r1, rfl, h⟩ := h
      refine ⟨r1, rfl, ?_⟩
      exact e_iret rfl h
    replace h := h.2
    by_cases hc5 : x1 = nI 5
    · refine e_tswI (t := 73) 5 rfl hc5 (by decide) (by decide) ?_
      replace h := h.1 hc5
      refine e_next (pc' := 74) rfl rfl ?_
      refine e_getR (pc' := 77) rfl rfl (hs.o rfl) (hs.a rfl) ?_
      refine e_next (pc' := 78) rfl rfl ?_
      refine e_ciI (pc' := 81) rfl (e_sV (as := [_]) (fun _ => rfl) (Or.inl rfl) rfl (hs.o rfl) rfl rfl (Nat.le_of_ble_eq_true rfl) (Nat.le_of_ble_eq_true rfl) rfl) rfl rfl ?_
      refine qev.mono h (fun v _ I2 _ h => ?_)
      obtain ⟨r2, rfl, h⟩ := h
      refine ⟨r2, rfl, ?_⟩
      exact e_iret rfl h
    replace h := h.2
    by_cases hc6 : x1 = nI 6
    · refine e_tswI (t := 82) 6 rfl hc6 (by decide) (by decide) ?_
      replace h := h.1 hc6
      refine e_next (pc' := 83) rfl rfl ?_
      refine e_getR (pc' := 86) rfl rfl (hs.o rfl) (hs.a rfl) ?_
      refine e_next (pc' := 87) rfl rfl ?_
      refine e_ciI (pc' := 90) rfl (e_sV (as := [_]) (fun _ => rfl) (Or.inl rfl) rfl (hs.o rfl) rfl rfl (Nat.le_of_ble_eq_true rfl) (Nat.le_of_ble_eq_true rfl) rfl) rfl rfl ?_
      refine qev.mono h (fun v _ I3 _ h => ?_)
      obtain ⟨r3, rfl, h⟩ := h
      refine ⟨r3, rfl, ?_⟩
      exact e_iret rfl h
    replace h := h.2
    by_cases hc7 : x1 = nI 7
    · refine e_tswI (t := 91) 7 rfl hc7 (by decide) (by decide) ?_
      replace h := h.1 hc7
      refine e_next (pc' := 92) rfl rfl ?_
      refine e_getR (pc' := 95) rfl rfl (hs.o rfl) (hs.a rfl) ?_
      refine e_next (pc' := 96) rfl rfl ?_
      refine e_ciI (pc' := 99) rfl (e_sV (as := [_]) (fun _ => rfl) (Or.inl rfl) rfl (hs.o rfl) rfl rfl (Nat.le_of_ble_eq_true rfl) (Nat.le_of_ble_eq_true rfl) rfl) rfl rfl ?_
      refine qev.mono h (fun v _ I4 _ h => ?_)
      obtain ⟨r4, rfl, h⟩ := h
      refine ⟨r4, rfl, ?_⟩
      exact e_iret rfl h
    replace h := h.2
    by_cases hc8 : x1 = nI 8
    · refine e_tswI (t := 100) 8 rfl hc8 (by decide) (by decide) ?_
      replace h := h.1 hc8
      refine e_next (pc' := 101) rfl rfl ?_
      refine e_getR (pc' := 104) rfl rfl (hs.o rfl) (hs.a rfl) ?_
      refine e_next (pc' := 105) rfl rfl ?_
      refine e_ciI (pc' := 108) rfl (e_sV (as := [_]) (fun _ => rfl) (Or.inl rfl) rfl (hs.o rfl) rfl rfl (Nat.le_of_ble_eq_true rfl) (Nat.le_of_ble_eq_true rfl) rfl) rfl rfl ?_
      refine qev.mono h (fun v _ I5 _ h => ?_)
      obtain ⟨r5, rfl, h⟩ := h
      refine ⟨r5, rfl, ?_⟩
      exact e_iret rfl h
    replace h := h.2
    by_cases hc9 : x1 = nI 9
    · refine e_tswI (t := 109) 9 rfl hc9 (by decide) (by decide) ?_
      replace h := h.1 hc9
      refine e_next (pc' := 110) rfl rfl ?_
      refine e_getR (pc' := 113) rfl rfl (hs.o rfl) (hs.a rfl) ?_
      refine e_next (pc' := 114) rfl rfl ?_
      refine e_next (pc' := 115) rfl rfl ?_
      refine e_ciI (pc' := 118) rfl (e_sV (as := [_, _]) (fun _ => rfl) (Or.inl rfl) rfl (hs.o rfl) rfl rfl (Nat.le_of_ble_eq_true rfl) (Nat.le_of_ble_eq_true rfl) rfl) rfl rfl ?_
      refine qev.mono h (fun v _ I6 _ h => ?_)
      obtain ⟨r6, rfl, h⟩ := h
      refine ⟨r6, rfl, ?_⟩
      exact e_iret rfl h
    replace h := h.2
    by_cases hc10 : x1 = nI 10
    · refine e_tswI (t := 119) 10 rfl hc10 (by decide) (by decide) ?_
      replace h := h.1 hc10
      refine e_next (pc' := 120) rfl rfl ?_
      refine e_next (pc' := 121) rfl rfl ?_
      refine e_ciV (pc' := 124) rfl (e_sV (as := [_]) (fun _ => rfl) (Or.inl rfl) rfl (hs.stackS hj_k1).o rfl rfl (Nat.le_of_ble_eq_true rfl) (Nat.le_of_ble_eq_true rfl) rfl) rfl rfl ?_
      refine qev.mono h (fun v _ I7 _ h => ?_)
      obtain ⟨rfl, h⟩ := h
      refine ⟨rfl, ?_⟩
      refine e_iconst (pc' := 125) rfl rfl kc_m1 ?_
      exact e_iret rfl h
    replace h := h.2
    replace h := h ⟨hc4, hc5, hc6, hc7, hc8, hc9, hc10⟩
    refine e_tswO (t := 126) (lo := 4) (hi := 10) rfl (fun k h1 h2 => ?_) (by decide) (by decide) ?_
    · rcases (show k = 4 ∨ k = 5 ∨ k = 6 ∨ k = 7 ∨ k = 8 ∨ k = 9 ∨ k = 10 by omega) with rfl | rfl | rfl | rfl | rfl | rfl | rfl
      · exact hc4
      · exact hc5
      · exact hc6
      · exact hc7
      · exact hc8
      · exact hc9
      · exact hc10
    refine e_next (pc' := 127) rfl rfl ?_
    refine e_getR (pc' := 130) rfl rfl (hs.o rfl) (hs.a rfl) ?_
    refine e_next (pc' := 131) rfl rfl ?_
    refine e_next (pc' := 132) rfl rfl ?_
    refine e_ciV (pc' := 135) rfl (e_sV (as := [_, _]) (fun _ => rfl) (Or.inl rfl) rfl (hs.o rfl) rfl rfl (Nat.le_of_ble_eq_true rfl) (Nat.le_of_ble_eq_true rfl) rfl) rfl rfl ?_
    refine qev.mono h (fun v _ I8 _ h => ?_)
    obtain ⟨rfl, h⟩ := h
    refine ⟨rfl, ?_⟩
    refine e_iconst (pc' := 136) rfl rfl kc_m1 ?_
    exact e_iret rfl h
  · replace h := h.2 hc
    refine e_iconst (pc' := 9) rfl rfl kc_1 ?_
    exact e_iret rfl h
theorem w46 {d : Nat} {x1 : Int32} {g : qG} {I : qI} {J : qJ} {Q : qQ} (hs : qSh g)  (h : (((nI 2) ≤ (I 33 2) → ∃ k1, (((qw I 33 2 ((I 33 2) - (nI 1))) 33 2) - (nI 1)) = nI k1 ∧ k1 < 24 ∧ ∃ k2, ((qw I 33 2 ((I 33 2) - (nI 1))) 33 2) = nI k2 ∧ k2 < 24 ∧ ((x1 = nI 11 → qC d 7 [.ref 12, .ref (35 + 2 * k1), .ref (35 + 2 * k2), .int (nI 1)] g (qw I 33 2 ((I 33 2) - (nI 1))) J (fun v _ I1 _ => v = none ∧ Q (some (.int (-1))) g I1 J)) ∧ (x1 = nI 12 → qC d 7 [.ref 12, .ref (35 + 2 * k1), .ref (35 + 2 * k2), .int (((qw I 33 2 ((I 33 2) - (nI 1))) 12 7) - (nI 1))] g (qw I 33 2 ((I 33 2) - (nI 1))) J (fun v _ I2 _ => v = none ∧ Q (some (.int (-1))) g I2 J)) ∧ (x1 = nI 13 → qC d 9 [.ref 12, .ref (35 + 2 * k1), .ref (35 + 2 * k2)] g (qw I 33 2 ((I 33 2) - (nI 1))) J (fun v _ I3 _ => v = none ∧ Q (some (.int (-1))) g I3 J)) ∧ (x1 = nI 14 → qC d 12 [.ref 12, .ref (35 + 2 * k1), .ref (35 + 2 * k2)] g (qw I 33 2 ((I 33 2) - (nI 1))) J (fun v _ I4 _ => ∃ r1, v = some (.int r1) ∧ Q (some (.int r1)) g I4 J)) ∧ (x1 = nI 15 → qC d 21 [.ref 12, .ref (35 + 2 * k1), .ref (35 + 2 * k2)] g (qw I 33 2 ((I 33 2) - (nI 1))) J (fun v _ I5 _ => ∃ r2, v = some (.int r2) ∧ Q (some (.int r2)) g I5 J)) ∧ (¬ x1 = nI 11 ∧ ¬ x1 = nI 12 ∧ ¬ x1 = nI 13 ∧ ¬ x1 = nI 14 ∧ ¬ x1 = nI 15 → qC d 8 [.ref 12, .ref (35 + 2 * k1), .ref (35 + 2 * k2)] g (qw I 33 2 ((I 33 2) - (nI 1))) J (fun v _ I6 _ => v = none ∧ Q (some (.int (-1))) g I6 J)))) ∧ (¬ (nI 2) ≤ (I 33 2) → Q (some (.int (nI 1))) g I J))) : qC (d + 1) 46 [.ref 33, .int x1] g I J Q := by
  show qev (d + 1) 46 (0, [.ref 33, .int x1, qpad, qpad], [], g, I, J) Q
  refine e_next (pc' := 1) rfl rfl ?_
  refine e_getI (pc' := 4) rfl (Or.inl rfl) rfl (hs.o rfl) ?_
  refine e_iconst (pc' := 5) rfl rfl kc_2 ?_
  refine e_icmp ((nI 2) ≤ (I 33 2)) (pc' := 8) rfl rfl e_d (fun hc => ?_) (fun hc => ?_)
  · replace h := h.1 hc
    refine e_next (pc' := 11) rfl rfl ?_
    refine e_next (pc' := 12) rfl rfl ?_
    refine e_getI (pc' := 15) rfl (Or.inl rfl) rfl (hs.o rfl) ?_
    refine e_iconst (pc' := 16) rfl rfl kc_1 ?_
    refine e_next (pc' := 17) rfl rfl ?_
    refine e_putI (pc' := 20) rfl rfl (hs.o rfl) ?_
    refine e_next (pc' := 21) rfl rfl ?_
    refine e_getR (pc' := 24) rfl rfl (hs.o rfl) (hs.a rfl) ?_
    refine e_next (pc' := 25) rfl rfl ?_
    refine e_getI (pc' := 28) rfl (Or.inl rfl) rfl (hs.o rfl) ?_
    refine e_iconst (pc' := 29) rfl rfl kc_1 ?_
    refine e_next (pc' := 30) rfl rfl ?_
    obtain ⟨k1, hi_k1, hj_k1, h⟩ := h
    refine e_aaldR k1 (pc' := 31) rfl rfl (hs.k rfl) rfl hi_k1 hj_k1 (by decide) (hs.stack hj_k1) ?_
    refine e_next (pc' := 32) (ls' := [_, _, _, _]) rfl rfl ?_
    refine e_next (pc' := 33) rfl rfl ?_
    refine e_getR (pc' := 36) rfl rfl (hs.o rfl) (hs.a rfl) ?_
    refine e_next (pc' := 37) rfl rfl ?_
    refine e_getI (pc' := 40) rfl (Or.inl rfl) rfl (hs.o rfl) ?_
    obtain ⟨k2, hi_k2, hj_k2, h⟩ := h
    refine e_aaldR k2 (pc' := 41) rfl rfl (hs.k rfl) rfl hi_k2 hj_k2 (by decide) (hs.stack hj_k2) ?_
    refine e_next (pc' := 42) (ls' := [_, _, _, _]) rfl rfl ?_
    refine e_next (pc' := 43) rfl rfl ?_
    by_cases hc11 : x1 = nI 11
    · refine e_tswI (t := 76) 11 rfl hc11 (by decide) (by decide) ?_
      replace h := h.1 hc11
      refine e_next (pc' := 77) rfl rfl ?_
      refine e_getR (pc' := 80) rfl rfl (hs.o rfl) (hs.a rfl) ?_
      refine e_next (pc' := 81) rfl rfl ?_
      refine e_next (pc' := 82) rfl rfl ?_
      refine e_iconst (pc' := 83) rfl rfl kc_1 ?_
      refine e_ciV (pc' := 86) rfl (e_sV (as := [_, _, _]) (fun _ => rfl) (Or.inl rfl) rfl (hs.o rfl) rfl rfl (Nat.le_of_ble_eq_true rfl) (Nat.le_of_ble_eq_true rfl) rfl) rfl rfl ?_
      refine qev.mono h (fun v _ I1 _ h => ?_)
      obtain ⟨rfl, h⟩ := h
      refine ⟨rfl, ?_⟩
      refine e_iconst (pc' := 87) rfl rfl kc_m1 ?_
      exact e_iret rfl h
    replace h := h.2
    by_cases hc12 : x1 = nI 12
    · refine e_tswI (t := 88) 12 rfl hc12 (by decide) (by decide) ?_
      replace h := h.1 hc12
      refine e_next (pc' := 89) rfl rfl ?_
      refine e_getR (pc' := 92) rfl rfl (hs.o rfl) (hs.a rfl) ?_
      refine e_next (pc' := 93) rfl rfl ?_
      refine e_next (pc' := 94) rfl rfl ?_
      refine e_next (pc' := 95) rfl rfl ?_
      refine e_getR (pc' := 98) rfl rfl (hs.o rfl) (hs.a rfl) ?_
      refine e_getI (pc' := 101) rfl (Or.inl rfl) rfl (hs.o rfl) ?_
      refine e_iconst (pc' := 102) rfl rfl kc_1 ?_
      refine e_next (pc' := 103) rfl rfl ?_
      refine e_ciV (pc' := 106) rfl (e_sV (as := [_, _, _]) (fun _ => rfl) (Or.inl rfl) rfl (hs.o rfl) rfl rfl (Nat.le_of_ble_eq_true rfl) (Nat.le_of_ble_eq_true rfl) rfl) rfl rfl ?_
      refine qev.mono h (fun v _ I2 _ h => ?_)
      obtain ⟨rfl, h⟩ := h
      refine ⟨rfl, ?_⟩
      refine e_iconst (pc' := 107) rfl rfl kc_m1 ?_
      exact e_iret rfl h
    replace h := h.2
    by_cases hc13 : x1 = nI 13
    · refine e_tswI (t := 108) 13 rfl hc13 (by decide) (by decide) ?_
      replace h := h.1 hc13
      refine e_next (pc' := 109) rfl rfl ?_
      refine e_getR (pc' := 112) rfl rfl (hs.o rfl) (hs.a rfl) ?_
      refine e_next (pc' := 113) rfl rfl ?_
      refine e_next (pc' := 114) rfl rfl ?_
      refine e_ciV (pc' := 117) rfl (e_sV (as := [_, _]) (fun _ => rfl) (Or.inl rfl) rfl (hs.o rfl) rfl rfl (Nat.le_of_ble_eq_true rfl) (Nat.le_of_ble_eq_true rfl) rfl) rfl rfl ?_
      refine qev.mono h (fun v _ I3 _ h => ?_)
      obtain ⟨rfl, h⟩ := h
      refine ⟨rfl, ?_⟩
      refine e_iconst (pc' := 118) rfl rfl kc_m1 ?_
      exact e_iret rfl h
    replace h := h.2
    by_cases hc14 : x1 = nI 14
    · refine e_tswI (t := 119) 14 rfl hc14 (by decide) (by decide) ?_
      replace h := h.1 hc14
      refine e_next (pc' := 120) rfl rfl ?_
      refine e_getR (pc' := 123) rfl rfl (hs.o rfl) (hs.a rfl) ?_
      refine e_next (pc' := 124) rfl rfl ?_
      refine e_next (pc' := 125) rfl rfl ?_
      refine e_ciI (pc' := 128) rfl (e_sV (as := [_, _]) (fun _ => rfl) (Or.inl rfl) rfl (hs.o rfl) rfl rfl (Nat.le_of_ble_eq_true rfl) (Nat.le_of_ble_eq_true rfl) rfl) rfl rfl ?_
      refine qev.mono h (fun v _ I4 _ h => ?_)
      obtain ⟨r1, rfl, h⟩ := h
      refine ⟨r1, rfl, ?_⟩
      exact e_iret rfl h
    replace h := h.2
    by_cases hc15 : x1 = nI 15
    · refine e_tswI (t := 129) 15 rfl hc15 (by decide) (by decide) ?_
      replace h := h.1 hc15
      refine e_next (pc' := 130) rfl rfl ?_
      refine e_getR (pc' := 133) rfl rfl (hs.o rfl) (hs.a rfl) ?_
      refine e_next (pc' := 134) rfl rfl ?_
      refine e_next (pc' := 135) rfl rfl ?_
      refine e_ciI (pc' := 138) rfl (e_sV (as := [_, _]) (fun _ => rfl) (Or.inl rfl) rfl (hs.o rfl) rfl rfl (Nat.le_of_ble_eq_true rfl) (Nat.le_of_ble_eq_true rfl) rfl) rfl rfl ?_
      refine qev.mono h (fun v _ I5 _ h => ?_)
      obtain ⟨r2, rfl, h⟩ := h
      refine ⟨r2, rfl, ?_⟩
      exact e_iret rfl h
    replace h := h.2
    replace h := h ⟨hc11, hc12, hc13, hc14, hc15⟩
    refine e_tswO (t := 139) (lo := 11) (hi := 15) rfl (fun k h1 h2 => ?_) (by decide) (by decide) ?_
    · rcases (show k = 11 ∨ k = 12 ∨ k = 13 ∨ k = 14 ∨ k = 15 by omega) with rfl | rfl | rfl | rfl | rfl
      · exact hc11
      · exact hc12
      · exact hc13
      · exact hc14
      · exact hc15
    refine e_next (pc' := 140) rfl rfl ?_
    refine e_getR (pc' := 143) rfl rfl (hs.o rfl) (hs.a rfl) ?_
    refine e_next (pc' := 144) rfl rfl ?_
    refine e_next (pc' := 145) rfl rfl ?_
    refine e_ciV (pc' := 148) rfl (e_sV (as := [_, _]) (fun _ => rfl) (Or.inl rfl) rfl (hs.o rfl) rfl rfl (Nat.le_of_ble_eq_true rfl) (Nat.le_of_ble_eq_true rfl) rfl) rfl rfl ?_
    refine qev.mono h (fun v _ I6 _ h => ?_)
    obtain ⟨rfl, h⟩ := h
    refine ⟨rfl, ?_⟩
    refine e_iconst (pc' := 149) rfl rfl kc_m1 ?_
    exact e_iret rfl h
  · replace h := h.2 hc
    refine e_iconst (pc' := 9) rfl rfl kc_1 ?_
    exact e_iret rfl h
theorem w47 {d : Nat} {x2 : Nat} {n_x2 : Nat} {g : qG} {I : qI} {J : qJ} {Q : qQ} (hs : qSh g) (h_x2 : qCod g x2 n_x2) (h : qSh (g.1, qw g.2.1 11 0 (some 5), g.2.2) ∧ qCod (g.1, qw g.2.1 11 0 (some 5), g.2.2) x2 n_x2 ∧ qSh ((g.1, qw g.2.1 11 0 (some 5), g.2.2).1, qw (g.1, qw g.2.1 11 0 (some 5), g.2.2).2.1 11 1 (some x2), (g.1, qw g.2.1 11 0 (some 5), g.2.2).2.2) ∧ qCod ((g.1, qw g.2.1 11 0 (some 5), g.2.2).1, qw (g.1, qw g.2.1 11 0 (some 5), g.2.2).2.1 11 1 (some x2), (g.1, qw g.2.1 11 0 (some 5), g.2.2).2.2) x2 n_x2 ∧ Q none ((g.1, qw g.2.1 11 0 (some 5), g.2.2).1, qw (g.1, qw g.2.1 11 0 (some 5), g.2.2).2.1 11 1 (some x2), (g.1, qw g.2.1 11 0 (some 5), g.2.2).2.2) I J) : qC d 47 [.ref 11, .ref 5, .ref x2] g I J Q := by
  show qev d 47 (0, [.ref 11, .ref 5, .ref x2], [], g, I, J) Q
  refine e_next (pc' := 1) rfl rfl ?_
  refine e_next (pc' := 4) rfl rfl ?_
  refine e_next (pc' := 5) rfl rfl ?_
  refine e_next (pc' := 6) rfl rfl ?_
  refine e_putA (pc' := 9) (v := (some 5)) rfl rfl (hs.o rfl) ?_
  obtain ⟨hs, h_x2, h⟩ := h
  refine e_next (pc' := 10) rfl rfl ?_
  refine e_next (pc' := 11) rfl rfl ?_
  refine e_putA (pc' := 14) (v := (some x2)) rfl rfl (hs.o rfl) ?_
  obtain ⟨hs, h_x2, h⟩ := h
  exact qev_ret rfl rfl h
theorem w48 {d : Nat} {x1 : Int32} {g : qG} {I : qI} {J : qJ} {Q : qQ} (hs : qSh g)  (h : ((x1 = 0 → qC d 49 [.ref 11] g (qw I 11 2 (nI 0)) J (fun v _ I3 _ => ∃ r3, v = some (.int r3) ∧ ((r3 = 0 → Q (some (.int (I3 11 2))) g I3 J) ∧ (¬ r3 = 0 → Q (some (.int (-1))) g I3 J)))) ∧ (¬ x1 = 0 → ((x1 = (nI 1) → qC d 51 [.ref 11, .int (nI 8)] g (qw I 11 2 (nI 0)) J (fun v _ I2 _ => ∃ r2, v = some (.int r2) ∧ ((r2 = 0 → Q (some (.int (I2 11 2))) g I2 J) ∧ (¬ r2 = 0 → Q (some (.int (-1))) g I2 J)))) ∧ (¬ x1 = (nI 1) → qC d 51 [.ref 11, .int (nI 1)] g (qw I 11 2 (nI 0)) J (fun v _ I1 _ => ∃ r1, v = some (.int r1) ∧ ((r1 = 0 → Q (some (.int (I1 11 2))) g I1 J) ∧ (¬ r1 = 0 → Q (some (.int (-1))) g I1 J)))))))) : qC (d + 1) 48 [.ref 11, .int x1] g I J Q := by
  show qev (d + 1) 48 (0, [.ref 11, .int x1, qpad], [], g, I, J) Q
  refine e_next (pc' := 1) rfl rfl ?_
  refine e_iconst (pc' := 2) rfl rfl kc_0 ?_
  refine e_putI (pc' := 5) rfl rfl (hs.o rfl) ?_
  refine e_next (pc' := 6) rfl rfl ?_
  refine e_if (¬ x1 = 0) (pc' := 9) rfl rfl e_d (fun hc => ?_) (fun hc => ?_)
  · replace h := h.2 hc
    refine e_next (pc' := 17) rfl rfl ?_
    refine e_next (pc' := 18) rfl rfl ?_
    refine e_iconst (pc' := 19) rfl rfl kc_1 ?_
    refine e_icmp (¬ x1 = (nI 1)) (pc' := 22) rfl rfl e_d (fun hc => ?_) (fun hc => ?_)
    · replace h := h.2 hc
      refine e_iconst (pc' := 28) rfl rfl kc_1 ?_
      refine e_ciI (pc' := 31) rfl (e_sV (as := [_]) (fun _ => rfl) (Or.inl rfl) rfl (hs.o rfl) rfl rfl (Nat.le_of_ble_eq_true rfl) (Nat.le_of_ble_eq_true rfl) rfl) rfl rfl ?_
      refine qev.mono h (fun v _ I1 _ h => ?_)
      obtain ⟨r1, rfl, h⟩ := h
      refine ⟨r1, rfl, ?_⟩
      refine e_next (pc' := 32) (ls' := [_, _, _]) rfl rfl ?_
      refine e_next (pc' := 33) rfl rfl ?_
      refine e_if (r1 = 0) (pc' := 36) rfl rfl e_d (fun hc => ?_) (fun hc => ?_)
      · replace h := h.1 hc
        refine e_next (pc' := 41) rfl rfl ?_
        refine e_getI (pc' := 44) rfl (Or.inl rfl) rfl (hs.o rfl) ?_
        exact e_iret rfl h
      · replace h := h.2 hc
        refine e_iconst (pc' := 37) rfl rfl kc_m1 ?_
        refine e_next (pc' := 44) rfl rfl ?_
        exact e_iret rfl h
    · replace h := h.1 (Decidable.not_not.mp hc)
      refine e_bipush (pc' := 24) rfl rfl kb_8 ?_
      refine e_next (pc' := 28) rfl rfl ?_
      refine e_ciI (pc' := 31) rfl (e_sV (as := [_]) (fun _ => rfl) (Or.inl rfl) rfl (hs.o rfl) rfl rfl (Nat.le_of_ble_eq_true rfl) (Nat.le_of_ble_eq_true rfl) rfl) rfl rfl ?_
      refine qev.mono h (fun v _ I2 _ h => ?_)
      obtain ⟨r2, rfl, h⟩ := h
      refine ⟨r2, rfl, ?_⟩
      refine e_next (pc' := 32) (ls' := [_, _, _]) rfl rfl ?_
      refine e_next (pc' := 33) rfl rfl ?_
      refine e_if (r2 = 0) (pc' := 36) rfl rfl e_d (fun hc => ?_) (fun hc => ?_)
      · replace h := h.1 hc
        refine e_next (pc' := 41) rfl rfl ?_
        refine e_getI (pc' := 44) rfl (Or.inl rfl) rfl (hs.o rfl) ?_
        exact e_iret rfl h
      · replace h := h.2 hc
        refine e_iconst (pc' := 37) rfl rfl kc_m1 ?_
        refine e_next (pc' := 44) rfl rfl ?_
        exact e_iret rfl h
  · replace h := h.1 (Decidable.not_not.mp hc)
    refine e_next (pc' := 10) rfl rfl ?_
    refine e_ciI (pc' := 13) rfl (e_sV (as := []) (fun _ => rfl) (Or.inl rfl) rfl (hs.o rfl) rfl rfl (Nat.le_of_ble_eq_true rfl) (Nat.le_of_ble_eq_true rfl) rfl) rfl rfl ?_
    refine qev.mono h (fun v _ I3 _ h => ?_)
    obtain ⟨r3, rfl, h⟩ := h
    refine ⟨r3, rfl, ?_⟩
    refine e_next (pc' := 31) rfl rfl ?_
    refine e_next (pc' := 32) (ls' := [_, _, _]) rfl rfl ?_
    refine e_next (pc' := 33) rfl rfl ?_
    refine e_if (r3 = 0) (pc' := 36) rfl rfl e_d (fun hc => ?_) (fun hc => ?_)
    · replace h := h.1 hc
      refine e_next (pc' := 41) rfl rfl ?_
      refine e_getI (pc' := 44) rfl (Or.inl rfl) rfl (hs.o rfl) ?_
      exact e_iret rfl h
    · replace h := h.2 hc
      refine e_iconst (pc' := 37) rfl rfl kc_m1 ?_
      refine e_next (pc' := 44) rfl rfl ?_
      exact e_iret rfl h
theorem w49 {d : Nat}  {g : qG} {I : qI} {J : qJ} {Q : qQ} (hs : qSh g)  (h : qC d 64 [.ref 11, .int (nI 115)] g (qw (qw I 11 5 (nI 7)) 11 6 (nI 12)) J (fun v _ I1 _ => ∃ r1, v = some (.int r1) ∧ ((r1 = 0 → Q (some (.int (nI 0))) g I1 J) ∧ (¬ r1 = 0 → qev (d + 1) 49 (29, [.ref 11, .int (nI 0), .int (nI 0), .int (nI 0)], [], g, I1, J) Q)))) : qC (d + 1) 49 [.ref 11] g I J Q := by
  show qev (d + 1) 49 (0, [.ref 11, qpad, qpad, qpad], [], g, I, J) Q
  refine e_next (pc' := 1) rfl rfl ?_
  refine e_bipush (pc' := 3) rfl rfl kb_7 ?_
  refine e_putI (pc' := 6) rfl rfl (hs.o rfl) ?_
  refine e_next (pc' := 7) rfl rfl ?_
  refine e_bipush (pc' := 9) rfl rfl kb_12 ?_
  refine e_putI (pc' := 12) rfl rfl (hs.o rfl) ?_
  refine e_iconst (pc' := 13) rfl rfl kc_0 ?_
  refine e_next (pc' := 14) (ls' := [_, _, _, _]) rfl rfl ?_
  refine e_iconst (pc' := 15) rfl rfl kc_0 ?_
  refine e_next (pc' := 16) (ls' := [_, _, _, _]) rfl rfl ?_
  refine e_next (pc' := 17) rfl rfl ?_
  refine e_bipush (pc' := 19) rfl rfl kb_115 ?_
  refine e_ciI (pc' := 22) rfl (e_sV (as := [_]) (fun _ => rfl) (Or.inl rfl) rfl (hs.o rfl) rfl rfl (Nat.le_of_ble_eq_true rfl) (Nat.le_of_ble_eq_true rfl) rfl) rfl rfl ?_
  refine qev.mono h (fun v _ I1 _ h => ?_)
  obtain ⟨r1, rfl, h⟩ := h
  refine ⟨r1, rfl, ?_⟩
  refine e_if (¬ r1 = 0) (pc' := 25) rfl rfl e_d (fun hc => ?_) (fun hc => ?_)
  · replace h := h.2 hc
    refine e_iconst (pc' := 28) rfl rfl kc_0 ?_
    refine e_next (pc' := 29) (ls' := [_, _, _, _]) rfl rfl ?_
    exact h
  · replace h := h.1 (Decidable.not_not.mp hc)
    refine e_iconst (pc' := 26) rfl rfl kc_0 ?_
    exact e_zret rfl (Or.inl nI_0) h
theorem w49_29 {d : Nat} {i1 : Int32} {i2 : Int32} {i3 : Int32} {g : qG} {I : qI} {J : qJ} {Q : qQ} (hs : qSh g)  (h : (((nI 2) < i3 → Q (some (.int (nI 1))) g I J) ∧ (¬ (nI 2) < i3 → qC d 67 [.ref 11] g I J (fun v _ I1 _ => ∃ r1, v = some (.int r1) ∧ ((r1 = 0 → Q (some (.int (nI 1))) g I1 J) ∧ (¬ r1 = 0 → ((i1 = 0 → qC d 64 [.ref 11, .int (nI 112)] g I1 J (fun v _ I4 _ => ∃ r4, v = some (.int r4) ∧ ((r4 = 0 → ((i2 = 0 → qC d 64 [.ref 11, .int (nI 109)] g I4 J (fun v _ I5 _ => ∃ r5, v = some (.int r5) ∧ ((r5 = 0 → Q (some (.int (nI 0))) g I5 J) ∧ (¬ r5 = 0 → qC d 65 [.ref 11, .int (nI 2), .int (nI 24)] g I5 J (fun v _ I6 _ => ∃ r6, v = some (.int r6) ∧ ((r6 = 0 → Q (some (.int (nI 0))) g I6 J) ∧ (¬ r6 = 0 → qev (d + 1) 49 (29, [.ref 11, .int i1, .int (nI 1), .int (i3 + (nI 1))], [], g, (qw I6 11 6 (I6 11 4)), J) Q))))))) ∧ (¬ i2 = 0 → Q (some (.int (nI 0))) g I4 J))) ∧ (¬ r4 = 0 → qC d 50 [.ref 11] g I4 J (fun v _ I7 _ => ∃ r7, v = some (.int r7) ∧ ((r7 = 0 → Q (some (.int (nI 0))) g I7 J) ∧ (¬ r7 = 0 → qev (d + 1) 49 (29, [.ref 11, .int (nI 1), .int i2, .int (i3 + (nI 1))], [], g, (qw I7 11 5 (I7 11 4)), J) Q))))))) ∧ (¬ i1 = 0 → ((i2 = 0 → qC d 64 [.ref 11, .int (nI 109)] g I1 J (fun v _ I2 _ => ∃ r2, v = some (.int r2) ∧ ((r2 = 0 → Q (some (.int (nI 0))) g I2 J) ∧ (¬ r2 = 0 → qC d 65 [.ref 11, .int (nI 2), .int (nI 24)] g I2 J (fun v _ I3 _ => ∃ r3, v = some (.int r3) ∧ ((r3 = 0 → Q (some (.int (nI 0))) g I3 J) ∧ (¬ r3 = 0 → qev (d + 1) 49 (29, [.ref 11, .int i1, .int (nI 1), .int (i3 + (nI 1))], [], g, (qw I3 11 6 (I3 11 4)), J) Q))))))) ∧ (¬ i2 = 0 → Q (some (.int (nI 0))) g I1 J)))))))))) : qev (d + 1) 49 (29, [.ref 11, .int i1, .int i2, .int i3], [], g, I, J) Q := by
  refine e_next (pc' := 30) rfl rfl ?_
  refine e_iconst (pc' := 31) rfl rfl kc_2 ?_
  refine e_icmp ((nI 2) < i3) (pc' := 34) rfl rfl e_d (fun hc => ?_) (fun hc => ?_)
  · replace h := h.1 hc
    refine e_iconst (pc' := 123) rfl rfl kc_1 ?_
    exact e_zret rfl (Or.inr nI_one) h
  · replace h := h.2 hc
    refine e_next (pc' := 35) rfl rfl ?_
    refine e_ciI (pc' := 38) rfl (e_sV (as := []) (fun _ => rfl) (Or.inl rfl) rfl (hs.o rfl) rfl rfl (Nat.le_of_ble_eq_true rfl) (Nat.le_of_ble_eq_true rfl) rfl) rfl rfl ?_
    refine qev.mono h (fun v _ I1 _ h => ?_)
    obtain ⟨r1, rfl, h⟩ := h
    refine ⟨r1, rfl, ?_⟩
    refine e_if (r1 = 0) (pc' := 41) rfl rfl e_d (fun hc => ?_) (fun hc => ?_)
    · replace h := h.1 hc
      refine e_iconst (pc' := 123) rfl rfl kc_1 ?_
      exact e_zret rfl (Or.inr nI_one) h
    · replace h := h.2 hc
      refine e_next (pc' := 42) rfl rfl ?_
      refine e_if (¬ i1 = 0) (pc' := 45) rfl rfl e_d (fun hc => ?_) (fun hc => ?_)
      · replace h := h.2 hc
        refine e_next (pc' := 77) rfl rfl ?_
        refine e_if (¬ i2 = 0) (pc' := 80) rfl rfl e_d (fun hc => ?_) (fun hc => ?_)
        · replace h := h.2 hc
          refine e_iconst (pc' := 115) rfl rfl kc_0 ?_
          exact e_zret rfl (Or.inl nI_0) h
        · replace h := h.1 (Decidable.not_not.mp hc)
          refine e_next (pc' := 81) rfl rfl ?_
          refine e_bipush (pc' := 83) rfl rfl kb_109 ?_
          refine e_ciI (pc' := 86) rfl (e_sV (as := [_]) (fun _ => rfl) (Or.inl rfl) rfl (hs.o rfl) rfl rfl (Nat.le_of_ble_eq_true rfl) (Nat.le_of_ble_eq_true rfl) rfl) rfl rfl ?_
          refine qev.mono h (fun v _ I2 _ h => ?_)
          obtain ⟨r2, rfl, h⟩ := h
          refine ⟨r2, rfl, ?_⟩
          refine e_if (r2 = 0) (pc' := 89) rfl rfl e_d (fun hc => ?_) (fun hc => ?_)
          · replace h := h.1 hc
            refine e_iconst (pc' := 115) rfl rfl kc_0 ?_
            exact e_zret rfl (Or.inl nI_0) h
          · replace h := h.2 hc
            refine e_next (pc' := 90) rfl rfl ?_
            refine e_iconst (pc' := 91) rfl rfl kc_2 ?_
            refine e_bipush (pc' := 93) rfl rfl kb_24 ?_
            refine e_ciI (pc' := 96) rfl (e_sV (as := [_, _]) (fun _ => rfl) (Or.inl rfl) rfl (hs.o rfl) rfl rfl (Nat.le_of_ble_eq_true rfl) (Nat.le_of_ble_eq_true rfl) rfl) rfl rfl ?_
            refine qev.mono h (fun v _ I3 _ h => ?_)
            obtain ⟨r3, rfl, h⟩ := h
            refine ⟨r3, rfl, ?_⟩
            refine e_if (¬ r3 = 0) (pc' := 99) rfl rfl e_d (fun hc => ?_) (fun hc => ?_)
            · replace h := h.2 hc
              refine e_next (pc' := 102) rfl rfl ?_
              refine e_next (pc' := 103) rfl rfl ?_
              refine e_getI (pc' := 106) rfl (Or.inl rfl) rfl (hs.o rfl) ?_
              refine e_putI (pc' := 109) rfl rfl (hs.o rfl) ?_
              refine e_iconst (pc' := 110) rfl rfl kc_1 ?_
              refine e_next (pc' := 111) (ls' := [_, _, _, _]) rfl rfl ?_
              refine e_next (pc' := 116) rfl rfl ?_
              refine e_iinc (pc' := 119) (ls' := [_, _, _, _]) (v := (nI 1)) rfl rfl kc_1 rfl rfl ?_
              refine e_next (pc' := 29) rfl rfl ?_
              exact h
            · replace h := h.1 (Decidable.not_not.mp hc)
              refine e_iconst (pc' := 100) rfl rfl kc_0 ?_
              exact e_zret rfl (Or.inl nI_0) h
      · replace h := h.1 (Decidable.not_not.mp hc)
        refine e_next (pc' := 46) rfl rfl ?_
        refine e_bipush (pc' := 48) rfl rfl kb_112 ?_
        refine e_ciI (pc' := 51) rfl (e_sV (as := [_]) (fun _ => rfl) (Or.inl rfl) rfl (hs.o rfl) rfl rfl (Nat.le_of_ble_eq_true rfl) (Nat.le_of_ble_eq_true rfl) rfl) rfl rfl ?_
        refine qev.mono h (fun v _ I4 _ h => ?_)
        obtain ⟨r4, rfl, h⟩ := h
        refine ⟨r4, rfl, ?_⟩
        refine e_if (r4 = 0) (pc' := 54) rfl rfl e_d (fun hc => ?_) (fun hc => ?_)
        · replace h := h.1 hc
          refine e_next (pc' := 77) rfl rfl ?_
          refine e_if (¬ i2 = 0) (pc' := 80) rfl rfl e_d (fun hc => ?_) (fun hc => ?_)
          · replace h := h.2 hc
            refine e_iconst (pc' := 115) rfl rfl kc_0 ?_
            exact e_zret rfl (Or.inl nI_0) h
          · replace h := h.1 (Decidable.not_not.mp hc)
            refine e_next (pc' := 81) rfl rfl ?_
            refine e_bipush (pc' := 83) rfl rfl kb_109 ?_
            refine e_ciI (pc' := 86) rfl (e_sV (as := [_]) (fun _ => rfl) (Or.inl rfl) rfl (hs.o rfl) rfl rfl (Nat.le_of_ble_eq_true rfl) (Nat.le_of_ble_eq_true rfl) rfl) rfl rfl ?_
            refine qev.mono h (fun v _ I5 _ h => ?_)
            obtain ⟨r5, rfl, h⟩ := h
            refine ⟨r5, rfl, ?_⟩
            refine e_if (r5 = 0) (pc' := 89) rfl rfl e_d (fun hc => ?_) (fun hc => ?_)
            · replace h := h.1 hc
              refine e_iconst (pc' := 115) rfl rfl kc_0 ?_
              exact e_zret rfl (Or.inl nI_0) h
            · replace h := h.2 hc
              refine e_next (pc' := 90) rfl rfl ?_
              refine e_iconst (pc' := 91) rfl rfl kc_2 ?_
              refine e_bipush (pc' := 93) rfl rfl kb_24 ?_
              refine e_ciI (pc' := 96) rfl (e_sV (as := [_, _]) (fun _ => rfl) (Or.inl rfl) rfl (hs.o rfl) rfl rfl (Nat.le_of_ble_eq_true rfl) (Nat.le_of_ble_eq_true rfl) rfl) rfl rfl ?_
              refine qev.mono h (fun v _ I6 _ h => ?_)
              obtain ⟨r6, rfl, h⟩ := h
              refine ⟨r6, rfl, ?_⟩
              refine e_if (¬ r6 = 0) (pc' := 99) rfl rfl e_d (fun hc => ?_) (fun hc => ?_)
              · replace h := h.2 hc
                refine e_next (pc' := 102) rfl rfl ?_
                refine e_next (pc' := 103) rfl rfl ?_
                refine e_getI (pc' := 106) rfl (Or.inl rfl) rfl (hs.o rfl) ?_
                refine e_putI (pc' := 109) rfl rfl (hs.o rfl) ?_
                refine e_iconst (pc' := 110) rfl rfl kc_1 ?_
                refine e_next (pc' := 111) (ls' := [_, _, _, _]) rfl rfl ?_
                refine e_next (pc' := 116) rfl rfl ?_
                refine e_iinc (pc' := 119) (ls' := [_, _, _, _]) (v := (nI 1)) rfl rfl kc_1 rfl rfl ?_
                refine e_next (pc' := 29) rfl rfl ?_
                exact h
              · replace h := h.1 (Decidable.not_not.mp hc)
                refine e_iconst (pc' := 100) rfl rfl kc_0 ?_
                exact e_zret rfl (Or.inl nI_0) h
        · replace h := h.2 hc
          refine e_next (pc' := 55) rfl rfl ?_
          refine e_ciI (pc' := 58) rfl (e_sV (as := []) (fun _ => rfl) (Or.inl rfl) rfl (hs.o rfl) rfl rfl (Nat.le_of_ble_eq_true rfl) (Nat.le_of_ble_eq_true rfl) rfl) rfl rfl ?_
          refine qev.mono h (fun v _ I7 _ h => ?_)
          obtain ⟨r7, rfl, h⟩ := h
          refine ⟨r7, rfl, ?_⟩
          refine e_if (¬ r7 = 0) (pc' := 61) rfl rfl e_d (fun hc => ?_) (fun hc => ?_)
          · replace h := h.2 hc
            refine e_next (pc' := 64) rfl rfl ?_
            refine e_next (pc' := 65) rfl rfl ?_
            refine e_getI (pc' := 68) rfl (Or.inl rfl) rfl (hs.o rfl) ?_
            refine e_putI (pc' := 71) rfl rfl (hs.o rfl) ?_
            refine e_iconst (pc' := 72) rfl rfl kc_1 ?_
            refine e_next (pc' := 73) (ls' := [_, _, _, _]) rfl rfl ?_
            refine e_next (pc' := 116) rfl rfl ?_
            refine e_iinc (pc' := 119) (ls' := [_, _, _, _]) (v := (nI 1)) rfl rfl kc_1 rfl rfl ?_
            refine e_next (pc' := 29) rfl rfl ?_
            exact h
          · replace h := h.1 (Decidable.not_not.mp hc)
            refine e_iconst (pc' := 62) rfl rfl kc_0 ?_
            exact e_zret rfl (Or.inl nI_0) h
theorem w50 {d : Nat}  {g : qG} {I : qI} {J : qJ} {Q : qQ} (hs : qSh g)  (h : qC d 65 [.ref 11, .int (nI 2), .int (nI 997)] g I J (fun v _ I1 _ => ∃ r1, v = some (.int r1) ∧ ((r1 = 0 → Q (some (.int (nI 0))) g I1 J) ∧ (¬ r1 = 0 → qev (d + 1) 50 (15, [.ref 11, .int (nI 2)], [], g, I1, J) Q)))) : qC (d + 1) 50 [.ref 11] g I J Q := by
  show qev (d + 1) 50 (0, [.ref 11, qpad], [], g, I, J) Q
  refine e_next (pc' := 1) rfl rfl ?_
  refine e_iconst (pc' := 2) rfl rfl kc_2 ?_
  refine e_sipush (pc' := 5) rfl rfl ks_997 ?_
  refine e_ciI (pc' := 8) rfl (e_sV (as := [_, _]) (fun _ => rfl) (Or.inl rfl) rfl (hs.o rfl) rfl rfl (Nat.le_of_ble_eq_true rfl) (Nat.le_of_ble_eq_true rfl) rfl) rfl rfl ?_
  refine qev.mono h (fun v _ I1 _ h => ?_)
  obtain ⟨r1, rfl, h⟩ := h
  refine ⟨r1, rfl, ?_⟩
  refine e_if (¬ r1 = 0) (pc' := 11) rfl rfl e_d (fun hc => ?_) (fun hc => ?_)
  · replace h := h.2 hc
    refine e_iconst (pc' := 14) rfl rfl kc_2 ?_
    refine e_next (pc' := 15) (ls' := [_, _]) rfl rfl ?_
    exact h
  · replace h := h.1 (Decidable.not_not.mp hc)
    refine e_iconst (pc' := 12) rfl rfl kc_0 ?_
    exact e_zret rfl (Or.inl nI_0) h
theorem w50_15 {d : Nat} {i1 : Int32} {g : qG} {I : qI} {J : qJ} {Q : qQ} (hs : qSh g)  (h : (((I 11 4) < (i1 * i1) → Q (some (.int (nI 1))) g I J) ∧ (¬ (I 11 4) < (i1 * i1) → ¬ i1 = 0 ∧ (((qrem (I 11 4) i1) = 0 → Q (some (.int (nI 0))) g (qw I 11 2 ((I 11 2) - (nI 1))) J) ∧ (¬ (qrem (I 11 4) i1) = 0 → qev (d + 1) 50 (15, [.ref 11, .int (i1 + (nI 1))], [], g, I, J) Q))))) : qev (d + 1) 50 (15, [.ref 11, .int i1], [], g, I, J) Q := by
  refine e_next (pc' := 16) rfl rfl ?_
  refine e_next (pc' := 17) rfl rfl ?_
  refine e_next (pc' := 18) rfl rfl ?_
  refine e_next (pc' := 19) rfl rfl ?_
  refine e_getI (pc' := 22) rfl (Or.inl rfl) rfl (hs.o rfl) ?_
  refine e_icmp ((I 11 4) < (i1 * i1)) (pc' := 25) rfl rfl e_d (fun hc => ?_) (fun hc => ?_)
  · replace h := h.1 hc
    refine e_iconst (pc' := 53) rfl rfl kc_1 ?_
    exact e_zret rfl (Or.inr nI_one) h
  · replace h := h.2 hc
    refine e_next (pc' := 26) rfl rfl ?_
    refine e_getI (pc' := 29) rfl (Or.inl rfl) rfl (hs.o rfl) ?_
    refine e_next (pc' := 30) rfl rfl ?_
    obtain ⟨hz1, h⟩ := h
    refine e_irem (pc' := 31) rfl rfl hz1 ?_
    refine e_if (¬ (qrem (I 11 4) i1) = 0) (pc' := 34) rfl rfl e_d (fun hc => ?_) (fun hc => ?_)
    · replace h := h.2 hc
      refine e_iinc (pc' := 49) (ls' := [_, _]) (v := (nI 1)) rfl rfl kc_1 rfl rfl ?_
      refine e_next (pc' := 15) rfl rfl ?_
      exact h
    · replace h := h.1 (Decidable.not_not.mp hc)
      refine e_next (pc' := 35) rfl rfl ?_
      refine e_next (pc' := 36) rfl rfl ?_
      refine e_getI (pc' := 39) rfl (Or.inl rfl) rfl (hs.o rfl) ?_
      refine e_iconst (pc' := 40) rfl rfl kc_1 ?_
      refine e_next (pc' := 41) rfl rfl ?_
      refine e_putI (pc' := 44) rfl rfl (hs.o rfl) ?_
      refine e_iconst (pc' := 45) rfl rfl kc_0 ?_
      exact e_zret rfl (Or.inl nI_0) h
theorem w51 {d : Nat} {x1 : Int32} {g : qG} {I : qI} {J : qJ} {Q : qQ} (hs : qSh g)  (h : qC d 30 [.ref 7] g I J (fun v _ I1 _ => v = none ∧ qev (d + 1) 51 (9, [.ref 11, .int x1, .int (nI 1)], [], g, I1, J) Q)) : qC (d + 1) 51 [.ref 11, .int x1] g I J Q := by
  show qev (d + 1) 51 (0, [.ref 11, .int x1, qpad], [], g, I, J) Q
  refine e_next (pc' := 1) rfl rfl ?_
  refine e_getR (pc' := 4) rfl rfl (hs.o rfl) (hs.a rfl) ?_
  refine e_ciV (pc' := 7) rfl (e_sV (as := []) (fun _ => rfl) (Or.inl rfl) rfl (hs.o rfl) rfl rfl (Nat.le_of_ble_eq_true rfl) (Nat.le_of_ble_eq_true rfl) rfl) rfl rfl ?_
  refine qev.mono h (fun v _ I1 _ h => ?_)
  obtain ⟨rfl, h⟩ := h
  refine ⟨rfl, ?_⟩
  refine e_iconst (pc' := 8) rfl rfl kc_1 ?_
  refine e_next (pc' := 9) (ls' := [_, _, _]) rfl rfl ?_
  exact h
theorem w51_9 {d : Nat} {i1 : Int32} {i2 : Int32} {g : qG} {I : qI} {J : qJ} {Q : qQ} (hs : qSh g)  (h : ((i1 < i2 → Q (some (.int (nI 0))) g I J) ∧ (¬ i1 < i2 → qC d 52 [.ref 11] g I J (fun v _ I1 _ => ∃ r1, v = some (.int r1) ∧ ((r1 = 0 → Q (some (.int (nI 0))) g I1 J) ∧ (¬ r1 = 0 → qC d 67 [.ref 11] g I1 J (fun v _ I2 _ => ∃ r2, v = some (.int r2) ∧ ((r2 = 0 → Q (some (.int (nI 1))) g I2 J) ∧ (¬ r2 = 0 → ((i2 = i1 → Q (some (.int (nI 0))) g I2 J) ∧ (¬ i2 = i1 → qC d 64 [.ref 11, .int (nI 59)] g I2 J (fun v _ I3 _ => ∃ r3, v = some (.int r3) ∧ ((r3 = 0 → Q (some (.int (nI 0))) g I3 J) ∧ (¬ r3 = 0 → qev (d + 1) 51 (9, [.ref 11, .int i1, .int (i2 + (nI 1))], [], g, I3, J) Q)))))))))))))) : qev (d + 1) 51 (9, [.ref 11, .int i1, .int i2], [], g, I, J) Q := by
  refine e_next (pc' := 10) rfl rfl ?_
  refine e_next (pc' := 11) rfl rfl ?_
  refine e_icmp (i1 < i2) (pc' := 14) rfl rfl e_d (fun hc => ?_) (fun hc => ?_)
  · replace h := h.1 hc
    refine e_iconst (pc' := 55) rfl rfl kc_0 ?_
    exact e_zret rfl (Or.inl nI_0) h
  · replace h := h.2 hc
    refine e_next (pc' := 15) rfl rfl ?_
    refine e_ciI (pc' := 18) rfl (e_sV (as := []) (fun _ => rfl) (Or.inl rfl) rfl (hs.o rfl) rfl rfl (Nat.le_of_ble_eq_true rfl) (Nat.le_of_ble_eq_true rfl) rfl) rfl rfl ?_
    refine qev.mono h (fun v _ I1 _ h => ?_)
    obtain ⟨r1, rfl, h⟩ := h
    refine ⟨r1, rfl, ?_⟩
    refine e_if (¬ r1 = 0) (pc' := 21) rfl rfl e_d (fun hc => ?_) (fun hc => ?_)
    · replace h := h.2 hc
      refine e_next (pc' := 24) rfl rfl ?_
      refine e_ciI (pc' := 27) rfl (e_sV (as := []) (fun _ => rfl) (Or.inl rfl) rfl (hs.o rfl) rfl rfl (Nat.le_of_ble_eq_true rfl) (Nat.le_of_ble_eq_true rfl) rfl) rfl rfl ?_
      refine qev.mono h (fun v _ I2 _ h => ?_)
      obtain ⟨r2, rfl, h⟩ := h
      refine ⟨r2, rfl, ?_⟩
      refine e_if (¬ r2 = 0) (pc' := 30) rfl rfl e_d (fun hc => ?_) (fun hc => ?_)
      · replace h := h.2 hc
        refine e_next (pc' := 33) rfl rfl ?_
        refine e_next (pc' := 34) rfl rfl ?_
        refine e_icmp (i2 = i1) (pc' := 37) rfl rfl e_d (fun hc => ?_) (fun hc => ?_)
        · replace h := h.1 hc
          refine e_iconst (pc' := 47) rfl rfl kc_0 ?_
          exact e_zret rfl (Or.inl nI_0) h
        · replace h := h.2 hc
          refine e_next (pc' := 38) rfl rfl ?_
          refine e_bipush (pc' := 40) rfl rfl kb_59 ?_
          refine e_ciI (pc' := 43) rfl (e_sV (as := [_]) (fun _ => rfl) (Or.inl rfl) rfl (hs.o rfl) rfl rfl (Nat.le_of_ble_eq_true rfl) (Nat.le_of_ble_eq_true rfl) rfl) rfl rfl ?_
          refine qev.mono h (fun v _ I3 _ h => ?_)
          obtain ⟨r3, rfl, h⟩ := h
          refine ⟨r3, rfl, ?_⟩
          refine e_if (¬ r3 = 0) (pc' := 46) rfl rfl e_d (fun hc => ?_) (fun hc => ?_)
          · replace h := h.2 hc
            refine e_iinc (pc' := 51) (ls' := [_, _, _]) (v := (nI 1)) rfl rfl kc_1 rfl rfl ?_
            refine e_next (pc' := 9) rfl rfl ?_
            exact h
          · replace h := h.1 (Decidable.not_not.mp hc)
            refine e_iconst (pc' := 47) rfl rfl kc_0 ?_
            exact e_zret rfl (Or.inl nI_0) h
      · replace h := h.1 (Decidable.not_not.mp hc)
        refine e_iconst (pc' := 31) rfl rfl kc_1 ?_
        exact e_zret rfl (Or.inr nI_one) h
    · replace h := h.1 (Decidable.not_not.mp hc)
      refine e_iconst (pc' := 22) rfl rfl kc_0 ?_
      exact e_zret rfl (Or.inl nI_0) h
theorem w52 {d : Nat}  {g : qG} {I : qI} {J : qJ} {Q : qQ} (hs : qSh g)  (h : qC d 67 [.ref 11] g I J (fun v _ I1 _ => ∃ r1, v = some (.int r1) ∧ ((r1 < (nI 97) → Q (some (.int (nI 0))) g I1 J) ∧ (¬ r1 < (nI 97) → (((nI 104) < r1 → Q (some (.int (nI 0))) g I1 J) ∧ (¬ (nI 104) < r1 → qC d 31 [.ref 7, .int (r1 - (nI 97))] g I1 J (fun v _ I2 _ => ∃ r2, v = some (.int r2) ∧ ((r2 = 0 → Q (some (.int (nI 0))) g I2 J) ∧ (¬ r2 = 0 → qC d 64 [.ref 11, .int (nI 61)] g (qw (qw I2 11 2 ((I2 11 2) + (nI 1))) 11 3 (nI 0)) J (fun v _ I3 _ => ∃ r3, v = some (.int r3) ∧ ((r3 = 0 → Q (some (.int (nI 0))) g I3 J) ∧ (¬ r3 = 0 → qC d 53 [.ref 11, .int (nI 0)] g I3 J (fun v _ I4 _ => ∃ r4, v = some (.int r4) ∧ ((r4 = 0 → Q (some (.int (nI 0))) g I4 J) ∧ (¬ r4 = 0 → qC d 32 [.ref 7] g I4 J (fun v _ I5 _ => ∃ r5, v = some (.int r5) ∧ ((r5 = 0 → Q (some (.int (nI 0))) g I5 J) ∧ (¬ r5 = 0 → Q (some (.int (nI 1))) g I5 J)))))))))))))))))) : qC (d + 1) 52 [.ref 11] g I J Q := by
  show qev (d + 1) 52 (0, [.ref 11, qpad], [], g, I, J) Q
  refine e_next (pc' := 1) rfl rfl ?_
  refine e_ciI (pc' := 4) rfl (e_sV (as := []) (fun _ => rfl) (Or.inl rfl) rfl (hs.o rfl) rfl rfl (Nat.le_of_ble_eq_true rfl) (Nat.le_of_ble_eq_true rfl) rfl) rfl rfl ?_
  refine qev.mono h (fun v _ I1 _ h => ?_)
  obtain ⟨r1, rfl, h⟩ := h
  refine ⟨r1, rfl, ?_⟩
  refine e_next (pc' := 5) (ls' := [_, _]) rfl rfl ?_
  refine e_next (pc' := 6) rfl rfl ?_
  refine e_bipush (pc' := 8) rfl rfl kb_97 ?_
  refine e_icmp (r1 < (nI 97)) (pc' := 11) rfl rfl e_d (fun hc => ?_) (fun hc => ?_)
  · replace h := h.1 hc
    refine e_iconst (pc' := 32) rfl rfl kc_0 ?_
    exact e_zret rfl (Or.inl nI_0) h
  · replace h := h.2 hc
    refine e_next (pc' := 12) rfl rfl ?_
    refine e_bipush (pc' := 14) rfl rfl kb_104 ?_
    refine e_icmp ((nI 104) < r1) (pc' := 17) rfl rfl e_d (fun hc => ?_) (fun hc => ?_)
    · replace h := h.1 hc
      refine e_iconst (pc' := 32) rfl rfl kc_0 ?_
      exact e_zret rfl (Or.inl nI_0) h
    · replace h := h.2 hc
      refine e_next (pc' := 18) rfl rfl ?_
      refine e_getR (pc' := 21) rfl rfl (hs.o rfl) (hs.a rfl) ?_
      refine e_next (pc' := 22) rfl rfl ?_
      refine e_bipush (pc' := 24) rfl rfl kb_97 ?_
      refine e_next (pc' := 25) rfl rfl ?_
      refine e_ciI (pc' := 28) rfl (e_sV (as := [_]) (fun _ => rfl) (Or.inl rfl) rfl (hs.o rfl) rfl rfl (Nat.le_of_ble_eq_true rfl) (Nat.le_of_ble_eq_true rfl) rfl) rfl rfl ?_
      refine qev.mono h (fun v _ I2 _ h => ?_)
      obtain ⟨r2, rfl, h⟩ := h
      refine ⟨r2, rfl, ?_⟩
      refine e_if (¬ r2 = 0) (pc' := 31) rfl rfl e_d (fun hc => ?_) (fun hc => ?_)
      · replace h := h.2 hc
        refine e_next (pc' := 34) rfl rfl ?_
        refine e_next (pc' := 35) rfl rfl ?_
        refine e_getI (pc' := 38) rfl (Or.inl rfl) rfl (hs.o rfl) ?_
        refine e_iconst (pc' := 39) rfl rfl kc_1 ?_
        refine e_next (pc' := 40) rfl rfl ?_
        refine e_putI (pc' := 43) rfl rfl (hs.o rfl) ?_
        refine e_next (pc' := 44) rfl rfl ?_
        refine e_iconst (pc' := 45) rfl rfl kc_0 ?_
        refine e_putI (pc' := 48) rfl rfl (hs.o rfl) ?_
        refine e_next (pc' := 49) rfl rfl ?_
        refine e_bipush (pc' := 51) rfl rfl kb_61 ?_
        refine e_ciI (pc' := 54) rfl (e_sV (as := [_]) (fun _ => rfl) (Or.inl rfl) rfl (hs.o rfl) rfl rfl (Nat.le_of_ble_eq_true rfl) (Nat.le_of_ble_eq_true rfl) rfl) rfl rfl ?_
        refine qev.mono h (fun v _ I3 _ h => ?_)
        obtain ⟨r3, rfl, h⟩ := h
        refine ⟨r3, rfl, ?_⟩
        refine e_if (r3 = 0) (pc' := 57) rfl rfl e_d (fun hc => ?_) (fun hc => ?_)
        · replace h := h.1 hc
          refine e_iconst (pc' := 80) rfl rfl kc_0 ?_
          exact e_zret rfl (Or.inl nI_0) h
        · replace h := h.2 hc
          refine e_next (pc' := 58) rfl rfl ?_
          refine e_iconst (pc' := 59) rfl rfl kc_0 ?_
          refine e_ciI (pc' := 62) rfl (e_sV (as := [_]) (fun _ => rfl) (Or.inl rfl) rfl (hs.o rfl) rfl rfl (Nat.le_of_ble_eq_true rfl) (Nat.le_of_ble_eq_true rfl) rfl) rfl rfl ?_
          refine qev.mono h (fun v _ I4 _ h => ?_)
          obtain ⟨r4, rfl, h⟩ := h
          refine ⟨r4, rfl, ?_⟩
          refine e_if (r4 = 0) (pc' := 65) rfl rfl e_d (fun hc => ?_) (fun hc => ?_)
          · replace h := h.1 hc
            refine e_iconst (pc' := 80) rfl rfl kc_0 ?_
            exact e_zret rfl (Or.inl nI_0) h
          · replace h := h.2 hc
            refine e_next (pc' := 66) rfl rfl ?_
            refine e_getR (pc' := 69) rfl rfl (hs.o rfl) (hs.a rfl) ?_
            refine e_ciI (pc' := 72) rfl (e_sV (as := []) (fun _ => rfl) (Or.inl rfl) rfl (hs.o rfl) rfl rfl (Nat.le_of_ble_eq_true rfl) (Nat.le_of_ble_eq_true rfl) rfl) rfl rfl ?_
            refine qev.mono h (fun v _ I5 _ h => ?_)
            obtain ⟨r5, rfl, h⟩ := h
            refine ⟨r5, rfl, ?_⟩
            refine e_if (r5 = 0) (pc' := 75) rfl rfl e_d (fun hc => ?_) (fun hc => ?_)
            · replace h := h.1 hc
              refine e_iconst (pc' := 80) rfl rfl kc_0 ?_
              exact e_zret rfl (Or.inl nI_0) h
            · replace h := h.2 hc
              refine e_iconst (pc' := 76) rfl rfl kc_1 ?_
              refine e_next (pc' := 80) rfl rfl ?_
              exact e_zret rfl (Or.inr nI_one) h
      · replace h := h.1 (Decidable.not_not.mp hc)
        refine e_iconst (pc' := 32) rfl rfl kc_0 ?_
        exact e_zret rfl (Or.inl nI_0) h
theorem w53 {d : Nat} {x1 : Int32} {g : qG} {I : qI} {J : qJ} {Q : qQ} (hs : qSh g)  (h : qC d 54 [.ref 11, .int x1] g I J (fun v _ I1 _ => ∃ r1, v = some (.int r1) ∧ ((r1 = 0 → Q (some (.int (nI 0))) g I1 J) ∧ (¬ r1 = 0 → qev (d + 1) 53 (12, [.ref 11, .int x1, .int (nI 0), qpad], [], g, I1, J) Q)))) : qC (d + 1) 53 [.ref 11, .int x1] g I J Q := by
  show qev (d + 1) 53 (0, [.ref 11, .int x1, qpad, qpad], [], g, I, J) Q
  refine e_next (pc' := 1) rfl rfl ?_
  refine e_next (pc' := 2) rfl rfl ?_
  refine e_ciI (pc' := 5) rfl (e_sV (as := [_]) (fun _ => rfl) (Or.inl rfl) rfl (hs.o rfl) rfl rfl (Nat.le_of_ble_eq_true rfl) (Nat.le_of_ble_eq_true rfl) rfl) rfl rfl ?_
  refine qev.mono h (fun v _ I1 _ h => ?_)
  obtain ⟨r1, rfl, h⟩ := h
  refine ⟨r1, rfl, ?_⟩
  refine e_if (¬ r1 = 0) (pc' := 8) rfl rfl e_d (fun hc => ?_) (fun hc => ?_)
  · replace h := h.2 hc
    refine e_iconst (pc' := 11) rfl rfl kc_0 ?_
    refine e_next (pc' := 12) (ls' := [_, _, _, _]) rfl rfl ?_
    exact h
  · replace h := h.1 (Decidable.not_not.mp hc)
    refine e_iconst (pc' := 9) rfl rfl kc_0 ?_
    exact e_zret rfl (Or.inl nI_0) h
theorem w53_12 {d : Nat} {i1 : Int32} {i2 : Int32} {w3 : Value} {g : qG} {I : qI} {J : qJ} {Q : qQ} (hs : qSh g)  (h : (((nI 24) ≤ i2 → Q (some (.int (nI 0))) g I J) ∧ (¬ (nI 24) ≤ i2 → qC d 67 [.ref 11] g I J (fun v _ I1 _ => ∃ r1, v = some (.int r1) ∧ ((r1 = (nI 43) → qev (d + 1) 53 (37, [.ref 11, .int i1, .int i2, .int r1], [], g, I1, J) Q) ∧ (¬ r1 = (nI 43) → ((r1 = (nI 45) → qev (d + 1) 53 (37, [.ref 11, .int i1, .int i2, .int r1], [], g, I1, J) Q) ∧ (¬ r1 = (nI 45) → Q (some (.int (nI 1))) g I1 J)))))))) : qev (d + 1) 53 (12, [.ref 11, .int i1, .int i2, w3], [], g, I, J) Q := by
  refine e_next (pc' := 13) rfl rfl ?_
  refine e_bipush (pc' := 15) rfl rfl kb_24 ?_
  refine e_icmp ((nI 24) ≤ i2) (pc' := 18) rfl rfl e_d (fun hc => ?_) (fun hc => ?_)
  · replace h := h.1 hc
    refine e_iconst (pc' := 88) rfl rfl kc_0 ?_
    exact e_zret rfl (Or.inl nI_0) h
  · replace h := h.2 hc
    refine e_next (pc' := 19) rfl rfl ?_
    refine e_ciI (pc' := 22) rfl (e_sV (as := []) (fun _ => rfl) (Or.inl rfl) rfl (hs.o rfl) rfl rfl (Nat.le_of_ble_eq_true rfl) (Nat.le_of_ble_eq_true rfl) rfl) rfl rfl ?_
    refine qev.mono h (fun v _ I1 _ h => ?_)
    obtain ⟨r1, rfl, h⟩ := h
    refine ⟨r1, rfl, ?_⟩
    refine e_next (pc' := 23) (ls' := [_, _, _, _]) rfl rfl ?_
    refine e_next (pc' := 24) rfl rfl ?_
    refine e_bipush (pc' := 26) rfl rfl kb_43 ?_
    refine e_icmp (r1 = (nI 43)) (pc' := 29) rfl rfl e_d (fun hc => ?_) (fun hc => ?_)
    · replace h := h.1 hc
      exact h
    · replace h := h.2 hc
      refine e_next (pc' := 30) rfl rfl ?_
      refine e_bipush (pc' := 32) rfl rfl kb_45 ?_
      refine e_icmp (r1 = (nI 45)) (pc' := 35) rfl rfl e_d (fun hc => ?_) (fun hc => ?_)
      · replace h := h.1 hc
        exact h
      · replace h := h.2 hc
        refine e_iconst (pc' := 36) rfl rfl kc_1 ?_
        exact e_zret rfl (Or.inr nI_one) h
theorem w53_37 {d : Nat} {i1 : Int32} {i2 : Int32} {i3 : Int32} {g : qG} {I : qI} {J : qJ} {Q : qQ} (hs : qSh g)  (h : qC d 54 [.ref 11, .int i1] g (qw I 11 2 ((I 11 2) + (nI 1))) J (fun v _ I1 _ => ∃ r1, v = some (.int r1) ∧ ((r1 = 0 → Q (some (.int (nI 0))) g I1 J) ∧ (¬ r1 = 0 → ((i3 = (nI 43) → qC d 33 [.ref 7, .int (nI 11), .int (nI 0)] g I1 J (fun v _ I3 _ => ∃ r3, v = some (.int r3) ∧ ((r3 = 0 → Q (some (.int (nI 0))) g I3 J) ∧ (¬ r3 = 0 → qev (d + 1) 53 (12, [.ref 11, .int i1, .int (i2 + (nI 1)), .int i3], [], g, I3, J) Q)))) ∧ (¬ i3 = (nI 43) → qC d 33 [.ref 7, .int (nI 12), .int (nI 0)] g I1 J (fun v _ I2 _ => ∃ r2, v = some (.int r2) ∧ ((r2 = 0 → Q (some (.int (nI 0))) g I2 J) ∧ (¬ r2 = 0 → qev (d + 1) 53 (12, [.ref 11, .int i1, .int (i2 + (nI 1)), .int i3], [], g, I2, J) Q))))))))) : qev (d + 1) 53 (37, [.ref 11, .int i1, .int i2, .int i3], [], g, I, J) Q := by
  refine e_next (pc' := 38) rfl rfl ?_
  refine e_next (pc' := 39) rfl rfl ?_
  refine e_getI (pc' := 42) rfl (Or.inl rfl) rfl (hs.o rfl) ?_
  refine e_iconst (pc' := 43) rfl rfl kc_1 ?_
  refine e_next (pc' := 44) rfl rfl ?_
  refine e_putI (pc' := 47) rfl rfl (hs.o rfl) ?_
  refine e_next (pc' := 48) rfl rfl ?_
  refine e_next (pc' := 49) rfl rfl ?_
  refine e_ciI (pc' := 52) rfl (e_sV (as := [_]) (fun _ => rfl) (Or.inl rfl) rfl (hs.o rfl) rfl rfl (Nat.le_of_ble_eq_true rfl) (Nat.le_of_ble_eq_true rfl) rfl) rfl rfl ?_
  refine qev.mono h (fun v _ I1 _ h => ?_)
  obtain ⟨r1, rfl, h⟩ := h
  refine ⟨r1, rfl, ?_⟩
  refine e_if (r1 = 0) (pc' := 55) rfl rfl e_d (fun hc => ?_) (fun hc => ?_)
  · replace h := h.1 hc
    refine e_iconst (pc' := 80) rfl rfl kc_0 ?_
    exact e_zret rfl (Or.inl nI_0) h
  · replace h := h.2 hc
    refine e_next (pc' := 56) rfl rfl ?_
    refine e_getR (pc' := 59) rfl rfl (hs.o rfl) (hs.a rfl) ?_
    refine e_next (pc' := 60) rfl rfl ?_
    refine e_bipush (pc' := 62) rfl rfl kb_43 ?_
    refine e_icmp (¬ i3 = (nI 43)) (pc' := 65) rfl rfl e_d (fun hc => ?_) (fun hc => ?_)
    · replace h := h.2 hc
      refine e_bipush (pc' := 72) rfl rfl kb_12 ?_
      refine e_iconst (pc' := 73) rfl rfl kc_0 ?_
      refine e_ciI (pc' := 76) rfl (e_sV (as := [_, _]) (fun _ => rfl) (Or.inl rfl) rfl (hs.o rfl) rfl rfl (Nat.le_of_ble_eq_true rfl) (Nat.le_of_ble_eq_true rfl) rfl) rfl rfl ?_
      refine qev.mono h (fun v _ I2 _ h => ?_)
      obtain ⟨r2, rfl, h⟩ := h
      refine ⟨r2, rfl, ?_⟩
      refine e_if (¬ r2 = 0) (pc' := 79) rfl rfl e_d (fun hc => ?_) (fun hc => ?_)
      · replace h := h.2 hc
        refine e_iinc (pc' := 84) (ls' := [_, _, _, _]) (v := (nI 1)) rfl rfl kc_1 rfl rfl ?_
        refine e_next (pc' := 12) rfl rfl ?_
        exact h
      · replace h := h.1 (Decidable.not_not.mp hc)
        refine e_iconst (pc' := 80) rfl rfl kc_0 ?_
        exact e_zret rfl (Or.inl nI_0) h
    · replace h := h.1 (Decidable.not_not.mp hc)
      refine e_bipush (pc' := 67) rfl rfl kb_11 ?_
      refine e_next (pc' := 72) rfl rfl ?_
      refine e_iconst (pc' := 73) rfl rfl kc_0 ?_
      refine e_ciI (pc' := 76) rfl (e_sV (as := [_, _]) (fun _ => rfl) (Or.inl rfl) rfl (hs.o rfl) rfl rfl (Nat.le_of_ble_eq_true rfl) (Nat.le_of_ble_eq_true rfl) rfl) rfl rfl ?_
      refine qev.mono h (fun v _ I3 _ h => ?_)
      obtain ⟨r3, rfl, h⟩ := h
      refine ⟨r3, rfl, ?_⟩
      refine e_if (¬ r3 = 0) (pc' := 79) rfl rfl e_d (fun hc => ?_) (fun hc => ?_)
      · replace h := h.2 hc
        refine e_iinc (pc' := 84) (ls' := [_, _, _, _]) (v := (nI 1)) rfl rfl kc_1 rfl rfl ?_
        refine e_next (pc' := 12) rfl rfl ?_
        exact h
      · replace h := h.1 (Decidable.not_not.mp hc)
        refine e_iconst (pc' := 80) rfl rfl kc_0 ?_
        exact e_zret rfl (Or.inl nI_0) h
theorem w54 {d : Nat} {x1 : Int32} {g : qG} {I : qI} {J : qJ} {Q : qQ} (hs : qSh g)  (h : qC d 55 [.ref 11, .int x1] g I J (fun v _ I1 _ => ∃ r1, v = some (.int r1) ∧ ((r1 = 0 → Q (some (.int (nI 0))) g I1 J) ∧ (¬ r1 = 0 → qev (d + 1) 54 (12, [.ref 11, .int x1, .int (nI 0), qpad], [], g, I1, J) Q)))) : qC (d + 1) 54 [.ref 11, .int x1] g I J Q := by
  show qev (d + 1) 54 (0, [.ref 11, .int x1, qpad, qpad], [], g, I, J) Q
  refine e_next (pc' := 1) rfl rfl ?_
  refine e_next (pc' := 2) rfl rfl ?_
  refine e_ciI (pc' := 5) rfl (e_sV (as := [_]) (fun _ => rfl) (Or.inl rfl) rfl (hs.o rfl) rfl rfl (Nat.le_of_ble_eq_true rfl) (Nat.le_of_ble_eq_true rfl) rfl) rfl rfl ?_
  refine qev.mono h (fun v _ I1 _ h => ?_)
  obtain ⟨r1, rfl, h⟩ := h
  refine ⟨r1, rfl, ?_⟩
  refine e_if (¬ r1 = 0) (pc' := 8) rfl rfl e_d (fun hc => ?_) (fun hc => ?_)
  · replace h := h.2 hc
    refine e_iconst (pc' := 11) rfl rfl kc_0 ?_
    refine e_next (pc' := 12) (ls' := [_, _, _, _]) rfl rfl ?_
    exact h
  · replace h := h.1 (Decidable.not_not.mp hc)
    refine e_iconst (pc' := 9) rfl rfl kc_0 ?_
    exact e_zret rfl (Or.inl nI_0) h
theorem w54_12 {d : Nat} {i1 : Int32} {i2 : Int32} {w3 : Value} {g : qG} {I : qI} {J : qJ} {Q : qQ} (hs : qSh g)  (h : (((nI 24) ≤ i2 → Q (some (.int (nI 0))) g I J) ∧ (¬ (nI 24) ≤ i2 → qC d 67 [.ref 11] g I J (fun v _ I1 _ => ∃ r1, v = some (.int r1) ∧ ((r1 = (nI 42) → qev (d + 1) 54 (37, [.ref 11, .int i1, .int i2, .int r1], [], g, I1, J) Q) ∧ (¬ r1 = (nI 42) → ((r1 = (nI 47) → qev (d + 1) 54 (37, [.ref 11, .int i1, .int i2, .int r1], [], g, I1, J) Q) ∧ (¬ r1 = (nI 47) → Q (some (.int (nI 1))) g I1 J)))))))) : qev (d + 1) 54 (12, [.ref 11, .int i1, .int i2, w3], [], g, I, J) Q := by
  refine e_next (pc' := 13) rfl rfl ?_
  refine e_bipush (pc' := 15) rfl rfl kb_24 ?_
  refine e_icmp ((nI 24) ≤ i2) (pc' := 18) rfl rfl e_d (fun hc => ?_) (fun hc => ?_)
  · replace h := h.1 hc
    refine e_iconst (pc' := 88) rfl rfl kc_0 ?_
    exact e_zret rfl (Or.inl nI_0) h
  · replace h := h.2 hc
    refine e_next (pc' := 19) rfl rfl ?_
    refine e_ciI (pc' := 22) rfl (e_sV (as := []) (fun _ => rfl) (Or.inl rfl) rfl (hs.o rfl) rfl rfl (Nat.le_of_ble_eq_true rfl) (Nat.le_of_ble_eq_true rfl) rfl) rfl rfl ?_
    refine qev.mono h (fun v _ I1 _ h => ?_)
    obtain ⟨r1, rfl, h⟩ := h
    refine ⟨r1, rfl, ?_⟩
    refine e_next (pc' := 23) (ls' := [_, _, _, _]) rfl rfl ?_
    refine e_next (pc' := 24) rfl rfl ?_
    refine e_bipush (pc' := 26) rfl rfl kb_42 ?_
    refine e_icmp (r1 = (nI 42)) (pc' := 29) rfl rfl e_d (fun hc => ?_) (fun hc => ?_)
    · replace h := h.1 hc
      exact h
    · replace h := h.2 hc
      refine e_next (pc' := 30) rfl rfl ?_
      refine e_bipush (pc' := 32) rfl rfl kb_47 ?_
      refine e_icmp (r1 = (nI 47)) (pc' := 35) rfl rfl e_d (fun hc => ?_) (fun hc => ?_)
      · replace h := h.1 hc
        exact h
      · replace h := h.2 hc
        refine e_iconst (pc' := 36) rfl rfl kc_1 ?_
        exact e_zret rfl (Or.inr nI_one) h
theorem w54_37 {d : Nat} {i1 : Int32} {i2 : Int32} {i3 : Int32} {g : qG} {I : qI} {J : qJ} {Q : qQ} (hs : qSh g)  (h : qC d 55 [.ref 11, .int i1] g (qw I 11 2 ((I 11 2) + (nI 1))) J (fun v _ I1 _ => ∃ r1, v = some (.int r1) ∧ ((r1 = 0 → Q (some (.int (nI 0))) g I1 J) ∧ (¬ r1 = 0 → ((i3 = (nI 42) → qC d 33 [.ref 7, .int (nI 13), .int (nI 0)] g I1 J (fun v _ I3 _ => ∃ r3, v = some (.int r3) ∧ ((r3 = 0 → Q (some (.int (nI 0))) g I3 J) ∧ (¬ r3 = 0 → qev (d + 1) 54 (12, [.ref 11, .int i1, .int (i2 + (nI 1)), .int i3], [], g, I3, J) Q)))) ∧ (¬ i3 = (nI 42) → qC d 33 [.ref 7, .int (nI 14), .int (nI 0)] g I1 J (fun v _ I2 _ => ∃ r2, v = some (.int r2) ∧ ((r2 = 0 → Q (some (.int (nI 0))) g I2 J) ∧ (¬ r2 = 0 → qev (d + 1) 54 (12, [.ref 11, .int i1, .int (i2 + (nI 1)), .int i3], [], g, I2, J) Q))))))))) : qev (d + 1) 54 (37, [.ref 11, .int i1, .int i2, .int i3], [], g, I, J) Q := by
  refine e_next (pc' := 38) rfl rfl ?_
  refine e_next (pc' := 39) rfl rfl ?_
  refine e_getI (pc' := 42) rfl (Or.inl rfl) rfl (hs.o rfl) ?_
  refine e_iconst (pc' := 43) rfl rfl kc_1 ?_
  refine e_next (pc' := 44) rfl rfl ?_
  refine e_putI (pc' := 47) rfl rfl (hs.o rfl) ?_
  refine e_next (pc' := 48) rfl rfl ?_
  refine e_next (pc' := 49) rfl rfl ?_
  refine e_ciI (pc' := 52) rfl (e_sV (as := [_]) (fun _ => rfl) (Or.inl rfl) rfl (hs.o rfl) rfl rfl (Nat.le_of_ble_eq_true rfl) (Nat.le_of_ble_eq_true rfl) rfl) rfl rfl ?_
  refine qev.mono h (fun v _ I1 _ h => ?_)
  obtain ⟨r1, rfl, h⟩ := h
  refine ⟨r1, rfl, ?_⟩
  refine e_if (r1 = 0) (pc' := 55) rfl rfl e_d (fun hc => ?_) (fun hc => ?_)
  · replace h := h.1 hc
    refine e_iconst (pc' := 80) rfl rfl kc_0 ?_
    exact e_zret rfl (Or.inl nI_0) h
  · replace h := h.2 hc
    refine e_next (pc' := 56) rfl rfl ?_
    refine e_getR (pc' := 59) rfl rfl (hs.o rfl) (hs.a rfl) ?_
    refine e_next (pc' := 60) rfl rfl ?_
    refine e_bipush (pc' := 62) rfl rfl kb_42 ?_
    refine e_icmp (¬ i3 = (nI 42)) (pc' := 65) rfl rfl e_d (fun hc => ?_) (fun hc => ?_)
    · replace h := h.2 hc
      refine e_bipush (pc' := 72) rfl rfl kb_14 ?_
      refine e_iconst (pc' := 73) rfl rfl kc_0 ?_
      refine e_ciI (pc' := 76) rfl (e_sV (as := [_, _]) (fun _ => rfl) (Or.inl rfl) rfl (hs.o rfl) rfl rfl (Nat.le_of_ble_eq_true rfl) (Nat.le_of_ble_eq_true rfl) rfl) rfl rfl ?_
      refine qev.mono h (fun v _ I2 _ h => ?_)
      obtain ⟨r2, rfl, h⟩ := h
      refine ⟨r2, rfl, ?_⟩
      refine e_if (¬ r2 = 0) (pc' := 79) rfl rfl e_d (fun hc => ?_) (fun hc => ?_)
      · replace h := h.2 hc
        refine e_iinc (pc' := 84) (ls' := [_, _, _, _]) (v := (nI 1)) rfl rfl kc_1 rfl rfl ?_
        refine e_next (pc' := 12) rfl rfl ?_
        exact h
      · replace h := h.1 (Decidable.not_not.mp hc)
        refine e_iconst (pc' := 80) rfl rfl kc_0 ?_
        exact e_zret rfl (Or.inl nI_0) h
    · replace h := h.1 (Decidable.not_not.mp hc)
      refine e_bipush (pc' := 67) rfl rfl kb_13 ?_
      refine e_next (pc' := 72) rfl rfl ?_
      refine e_iconst (pc' := 73) rfl rfl kc_0 ?_
      refine e_ciI (pc' := 76) rfl (e_sV (as := [_, _]) (fun _ => rfl) (Or.inl rfl) rfl (hs.o rfl) rfl rfl (Nat.le_of_ble_eq_true rfl) (Nat.le_of_ble_eq_true rfl) rfl) rfl rfl ?_
      refine qev.mono h (fun v _ I3 _ h => ?_)
      obtain ⟨r3, rfl, h⟩ := h
      refine ⟨r3, rfl, ?_⟩
      refine e_if (¬ r3 = 0) (pc' := 79) rfl rfl e_d (fun hc => ?_) (fun hc => ?_)
      · replace h := h.2 hc
        refine e_iinc (pc' := 84) (ls' := [_, _, _, _]) (v := (nI 1)) rfl rfl kc_1 rfl rfl ?_
        refine e_next (pc' := 12) rfl rfl ?_
        exact h
      · replace h := h.1 (Decidable.not_not.mp hc)
        refine e_iconst (pc' := 80) rfl rfl kc_0 ?_
        exact e_zret rfl (Or.inl nI_0) h
theorem w55 {d : Nat} {x1 : Int32} {g : qG} {I : qI} {J : qJ} {Q : qQ} (hs : qSh g)  (h : qC d 56 [.ref 11, .int x1] g I J (fun v _ I1 _ => ∃ r1, v = some (.int r1) ∧ ((r1 = 0 → Q (some (.int (nI 0))) g I1 J) ∧ (¬ r1 = 0 → qC d 64 [.ref 11, .int (nI 94)] g I1 J (fun v _ I2 _ => ∃ r2, v = some (.int r2) ∧ ((r2 = 0 → Q (some (.int (nI 1))) g I2 J) ∧ (¬ r2 = 0 → qC d 65 [.ref 11, .int (nI 0), .int (nI 99)] g I2 J (fun v _ I3 _ => ∃ r3, v = some (.int r3) ∧ ((r3 = 0 → Q (some (.int (nI 0))) g I3 J) ∧ (¬ r3 = 0 → qC d 33 [.ref 7, .int (nI 3), .int (I3 11 4)] g I3 J (fun v _ I4 _ => ∃ r4, v = some (.int r4) ∧ ((r4 = 0 → Q (some (.int (nI 0))) g I4 J) ∧ (¬ r4 = 0 → Q (some (.int (nI 1))) g I4 J))))))))))))) : qC (d + 1) 55 [.ref 11, .int x1] g I J Q := by
  show qev (d + 1) 55 (0, [.ref 11, .int x1], [], g, I, J) Q
  refine e_next (pc' := 1) rfl rfl ?_
  refine e_next (pc' := 2) rfl rfl ?_
  refine e_ciI (pc' := 5) rfl (e_sV (as := [_]) (fun _ => rfl) (Or.inl rfl) rfl (hs.o rfl) rfl rfl (Nat.le_of_ble_eq_true rfl) (Nat.le_of_ble_eq_true rfl) rfl) rfl rfl ?_
  refine qev.mono h (fun v _ I1 _ h => ?_)
  obtain ⟨r1, rfl, h⟩ := h
  refine ⟨r1, rfl, ?_⟩
  refine e_if (¬ r1 = 0) (pc' := 8) rfl rfl e_d (fun hc => ?_) (fun hc => ?_)
  · replace h := h.2 hc
    refine e_next (pc' := 11) rfl rfl ?_
    refine e_bipush (pc' := 13) rfl rfl kb_94 ?_
    refine e_ciI (pc' := 16) rfl (e_sV (as := [_]) (fun _ => rfl) (Or.inl rfl) rfl (hs.o rfl) rfl rfl (Nat.le_of_ble_eq_true rfl) (Nat.le_of_ble_eq_true rfl) rfl) rfl rfl ?_
    refine qev.mono h (fun v _ I2 _ h => ?_)
    obtain ⟨r2, rfl, h⟩ := h
    refine ⟨r2, rfl, ?_⟩
    refine e_if (¬ r2 = 0) (pc' := 19) rfl rfl e_d (fun hc => ?_) (fun hc => ?_)
    · replace h := h.2 hc
      refine e_next (pc' := 22) rfl rfl ?_
      refine e_iconst (pc' := 23) rfl rfl kc_0 ?_
      refine e_bipush (pc' := 25) rfl rfl kb_99 ?_
      refine e_ciI (pc' := 28) rfl (e_sV (as := [_, _]) (fun _ => rfl) (Or.inl rfl) rfl (hs.o rfl) rfl rfl (Nat.le_of_ble_eq_true rfl) (Nat.le_of_ble_eq_true rfl) rfl) rfl rfl ?_
      refine qev.mono h (fun v _ I3 _ h => ?_)
      obtain ⟨r3, rfl, h⟩ := h
      refine ⟨r3, rfl, ?_⟩
      refine e_if (r3 = 0) (pc' := 31) rfl rfl e_d (fun hc => ?_) (fun hc => ?_)
      · replace h := h.1 hc
        refine e_iconst (pc' := 51) rfl rfl kc_0 ?_
        exact e_zret rfl (Or.inl nI_0) h
      · replace h := h.2 hc
        refine e_next (pc' := 32) rfl rfl ?_
        refine e_getR (pc' := 35) rfl rfl (hs.o rfl) (hs.a rfl) ?_
        refine e_iconst (pc' := 36) rfl rfl kc_3 ?_
        refine e_next (pc' := 37) rfl rfl ?_
        refine e_getI (pc' := 40) rfl (Or.inl rfl) rfl (hs.o rfl) ?_
        refine e_ciI (pc' := 43) rfl (e_sV (as := [_, _]) (fun _ => rfl) (Or.inl rfl) rfl (hs.o rfl) rfl rfl (Nat.le_of_ble_eq_true rfl) (Nat.le_of_ble_eq_true rfl) rfl) rfl rfl ?_
        refine qev.mono h (fun v _ I4 _ h => ?_)
        obtain ⟨r4, rfl, h⟩ := h
        refine ⟨r4, rfl, ?_⟩
        refine e_if (r4 = 0) (pc' := 46) rfl rfl e_d (fun hc => ?_) (fun hc => ?_)
        · replace h := h.1 hc
          refine e_iconst (pc' := 51) rfl rfl kc_0 ?_
          exact e_zret rfl (Or.inl nI_0) h
        · replace h := h.2 hc
          refine e_iconst (pc' := 47) rfl rfl kc_1 ?_
          refine e_next (pc' := 51) rfl rfl ?_
          exact e_zret rfl (Or.inr nI_one) h
    · replace h := h.1 (Decidable.not_not.mp hc)
      refine e_iconst (pc' := 20) rfl rfl kc_1 ?_
      exact e_zret rfl (Or.inr nI_one) h
  · replace h := h.1 (Decidable.not_not.mp hc)
    refine e_iconst (pc' := 9) rfl rfl kc_0 ?_
    exact e_zret rfl (Or.inl nI_0) h
theorem w56 {d : Nat} {x1 : Int32} {g : qG} {I : qI} {J : qJ} {Q : qQ} (hs : qSh g)  (h : qC d 67 [.ref 11] g I J (fun v _ I1 _ => ∃ r1, v = some (.int r1) ∧ ((r1 = (nI 40) → qC d 62 [.ref 11, .int x1] g I1 J (fun v _ I4 _ => ∃ r4, v = some (.int r4) ∧ (r4 = 0 ∨ r4 = 1) ∧ Q (some (.int r4)) g I4 J)) ∧ (¬ r1 = (nI 40) → (((I1 11 3) < (nI 24) → ((r1 < (nI 48) → qev (d + 1) 56 (82, [.ref 11, .int x1, .int r1], [], g, (qw I1 11 3 ((I1 11 3) + (nI 1))), J) Q) ∧ (¬ r1 < (nI 48) → (((nI 57) < r1 → qev (d + 1) 56 (82, [.ref 11, .int x1, .int r1], [], g, (qw I1 11 3 ((I1 11 3) + (nI 1))), J) Q) ∧ (¬ (nI 57) < r1 → qC d 65 [.ref 11, .int (nI 0), .int (nI 999)] g (qw I1 11 3 ((I1 11 3) + (nI 1))) J (fun v _ I2 _ => ∃ r2, v = some (.int r2) ∧ ((r2 = 0 → Q (some (.int (nI 0))) g I2 J) ∧ (¬ r2 = 0 → qC d 33 [.ref 7, .int (nI 0), .int (I2 11 4)] g I2 J (fun v _ I3 _ => ∃ r3, v = some (.int r3) ∧ ((r3 = 0 → Q (some (.int (nI 0))) g I3 J) ∧ (¬ r3 = 0 → Q (some (.int (nI 1))) g I3 J))))))))))) ∧ (¬ (I1 11 3) < (nI 24) → Q (some (.int (nI 0))) g I1 J)))))) : qC (d + 1) 56 [.ref 11, .int x1] g I J Q := by
  show qev (d + 1) 56 (0, [.ref 11, .int x1, qpad], [], g, I, J) Q
  refine e_next (pc' := 1) rfl rfl ?_
  refine e_ciI (pc' := 4) rfl (e_sV (as := []) (fun _ => rfl) (Or.inl rfl) rfl (hs.o rfl) rfl rfl (Nat.le_of_ble_eq_true rfl) (Nat.le_of_ble_eq_true rfl) rfl) rfl rfl ?_
  refine qev.mono h (fun v _ I1 _ h => ?_)
  obtain ⟨r1, rfl, h⟩ := h
  refine ⟨r1, rfl, ?_⟩
  refine e_next (pc' := 5) (ls' := [_, _, _]) rfl rfl ?_
  refine e_next (pc' := 6) rfl rfl ?_
  refine e_bipush (pc' := 8) rfl rfl kb_40 ?_
  refine e_icmp (¬ r1 = (nI 40)) (pc' := 11) rfl rfl e_d (fun hc => ?_) (fun hc => ?_)
  · replace h := h.2 hc
    refine e_next (pc' := 18) rfl rfl ?_
    refine e_getI (pc' := 21) rfl (Or.inl rfl) rfl (hs.o rfl) ?_
    refine e_bipush (pc' := 23) rfl rfl kb_24 ?_
    refine e_icmp ((I1 11 3) < (nI 24)) (pc' := 26) rfl rfl e_d (fun hc => ?_) (fun hc => ?_)
    · replace h := h.1 hc
      refine e_next (pc' := 29) rfl rfl ?_
      refine e_next (pc' := 30) rfl rfl ?_
      refine e_getI (pc' := 33) rfl (Or.inl rfl) rfl (hs.o rfl) ?_
      refine e_iconst (pc' := 34) rfl rfl kc_1 ?_
      refine e_next (pc' := 35) rfl rfl ?_
      refine e_putI (pc' := 38) rfl rfl (hs.o rfl) ?_
      refine e_next (pc' := 39) rfl rfl ?_
      refine e_bipush (pc' := 41) rfl rfl kb_48 ?_
      refine e_icmp (r1 < (nI 48)) (pc' := 44) rfl rfl e_d (fun hc => ?_) (fun hc => ?_)
      · replace h := h.1 hc
        exact h
      · replace h := h.2 hc
        refine e_next (pc' := 45) rfl rfl ?_
        refine e_bipush (pc' := 47) rfl rfl kb_57 ?_
        refine e_icmp ((nI 57) < r1) (pc' := 50) rfl rfl e_d (fun hc => ?_) (fun hc => ?_)
        · replace h := h.1 hc
          exact h
        · replace h := h.2 hc
          refine e_next (pc' := 51) rfl rfl ?_
          refine e_iconst (pc' := 52) rfl rfl kc_0 ?_
          refine e_sipush (pc' := 55) rfl rfl ks_999 ?_
          refine e_ciI (pc' := 58) rfl (e_sV (as := [_, _]) (fun _ => rfl) (Or.inl rfl) rfl (hs.o rfl) rfl rfl (Nat.le_of_ble_eq_true rfl) (Nat.le_of_ble_eq_true rfl) rfl) rfl rfl ?_
          refine qev.mono h (fun v _ I2 _ h => ?_)
          obtain ⟨r2, rfl, h⟩ := h
          refine ⟨r2, rfl, ?_⟩
          refine e_if (r2 = 0) (pc' := 61) rfl rfl e_d (fun hc => ?_) (fun hc => ?_)
          · replace h := h.1 hc
            refine e_iconst (pc' := 81) rfl rfl kc_0 ?_
            exact e_zret rfl (Or.inl nI_0) h
          · replace h := h.2 hc
            refine e_next (pc' := 62) rfl rfl ?_
            refine e_getR (pc' := 65) rfl rfl (hs.o rfl) (hs.a rfl) ?_
            refine e_iconst (pc' := 66) rfl rfl kc_0 ?_
            refine e_next (pc' := 67) rfl rfl ?_
            refine e_getI (pc' := 70) rfl (Or.inl rfl) rfl (hs.o rfl) ?_
            refine e_ciI (pc' := 73) rfl (e_sV (as := [_, _]) (fun _ => rfl) (Or.inl rfl) rfl (hs.o rfl) rfl rfl (Nat.le_of_ble_eq_true rfl) (Nat.le_of_ble_eq_true rfl) rfl) rfl rfl ?_
            refine qev.mono h (fun v _ I3 _ h => ?_)
            obtain ⟨r3, rfl, h⟩ := h
            refine ⟨r3, rfl, ?_⟩
            refine e_if (r3 = 0) (pc' := 76) rfl rfl e_d (fun hc => ?_) (fun hc => ?_)
            · replace h := h.1 hc
              refine e_iconst (pc' := 81) rfl rfl kc_0 ?_
              exact e_zret rfl (Or.inl nI_0) h
            · replace h := h.2 hc
              refine e_iconst (pc' := 77) rfl rfl kc_1 ?_
              refine e_next (pc' := 81) rfl rfl ?_
              exact e_zret rfl (Or.inr nI_one) h
    · replace h := h.2 hc
      refine e_iconst (pc' := 27) rfl rfl kc_0 ?_
      exact e_zret rfl (Or.inl nI_0) h
  · replace h := h.1 (Decidable.not_not.mp hc)
    refine e_next (pc' := 12) rfl rfl ?_
    refine e_next (pc' := 13) rfl rfl ?_
    refine e_ciI (pc' := 16) rfl (e_sV (as := [_]) (fun _ => rfl) (Or.inl rfl) rfl (hs.o rfl) rfl rfl (Nat.le_of_ble_eq_true rfl) (Nat.le_of_ble_eq_true rfl) rfl) rfl rfl ?_
    refine qev.mono h (fun v _ I4 _ h => ?_)
    obtain ⟨r4, rfl, h⟩ := h
    refine ⟨r4, rfl, ?_⟩
    exact e_zret rfl h.1 h.2
theorem w56_82 {d : Nat} {i1 : Int32} {i2 : Int32} {g : qG} {I : qI} {J : qJ} {Q : qQ} (hs : qSh g)  (h : ((i2 = (nI 120) → qC d 33 [.ref 7, .int (nI 1), .int (nI 0)] g (qw I 11 2 ((I 11 2) + (nI 1))) J (fun v _ I4 _ => ∃ r4, v = some (.int r4) ∧ (r4 = 0 ∨ r4 = 1) ∧ Q (some (.int r4)) g I4 J)) ∧ (¬ i2 = (nI 120) → ((i2 < (nI 97) → qC d 57 [.ref 11, .int i2, .int i1] g I J (fun v _ I1 _ => ∃ r1, v = some (.int r1) ∧ (r1 = 0 ∨ r1 = 1) ∧ Q (some (.int r1)) g I1 J)) ∧ (¬ i2 < (nI 97) → (((nI 104) < i2 → qC d 57 [.ref 11, .int i2, .int i1] g I J (fun v _ I2 _ => ∃ r2, v = some (.int r2) ∧ (r2 = 0 ∨ r2 = 1) ∧ Q (some (.int r2)) g I2 J)) ∧ (¬ (nI 104) < i2 → qC d 33 [.ref 7, .int (nI 2), .int (i2 - (nI 97))] g (qw I 11 2 ((I 11 2) + (nI 1))) J (fun v _ I3 _ => ∃ r3, v = some (.int r3) ∧ (r3 = 0 ∨ r3 = 1) ∧ Q (some (.int r3)) g I3 J)))))))) : qev (d + 1) 56 (82, [.ref 11, .int i1, .int i2], [], g, I, J) Q := by
  refine e_next (pc' := 83) rfl rfl ?_
  refine e_bipush (pc' := 85) rfl rfl kb_120 ?_
  refine e_icmp (¬ i2 = (nI 120)) (pc' := 88) rfl rfl e_d (fun hc => ?_) (fun hc => ?_)
  · replace h := h.2 hc
    refine e_next (pc' := 109) rfl rfl ?_
    refine e_bipush (pc' := 111) rfl rfl kb_97 ?_
    refine e_icmp (i2 < (nI 97)) (pc' := 114) rfl rfl e_d (fun hc => ?_) (fun hc => ?_)
    · replace h := h.1 hc
      refine e_next (pc' := 144) rfl rfl ?_
      refine e_next (pc' := 145) rfl rfl ?_
      refine e_next (pc' := 146) rfl rfl ?_
      refine e_ciI (pc' := 149) rfl (e_sV (as := [_, _]) (fun _ => rfl) (Or.inl rfl) rfl (hs.o rfl) rfl rfl (Nat.le_of_ble_eq_true rfl) (Nat.le_of_ble_eq_true rfl) rfl) rfl rfl ?_
      refine qev.mono h (fun v _ I1 _ h => ?_)
      obtain ⟨r1, rfl, h⟩ := h
      refine ⟨r1, rfl, ?_⟩
      exact e_zret rfl h.1 h.2
    · replace h := h.2 hc
      refine e_next (pc' := 115) rfl rfl ?_
      refine e_bipush (pc' := 117) rfl rfl kb_104 ?_
      refine e_icmp ((nI 104) < i2) (pc' := 120) rfl rfl e_d (fun hc => ?_) (fun hc => ?_)
      · replace h := h.1 hc
        refine e_next (pc' := 144) rfl rfl ?_
        refine e_next (pc' := 145) rfl rfl ?_
        refine e_next (pc' := 146) rfl rfl ?_
        refine e_ciI (pc' := 149) rfl (e_sV (as := [_, _]) (fun _ => rfl) (Or.inl rfl) rfl (hs.o rfl) rfl rfl (Nat.le_of_ble_eq_true rfl) (Nat.le_of_ble_eq_true rfl) rfl) rfl rfl ?_
        refine qev.mono h (fun v _ I2 _ h => ?_)
        obtain ⟨r2, rfl, h⟩ := h
        refine ⟨r2, rfl, ?_⟩
        exact e_zret rfl h.1 h.2
      · replace h := h.2 hc
        refine e_next (pc' := 121) rfl rfl ?_
        refine e_next (pc' := 122) rfl rfl ?_
        refine e_getI (pc' := 125) rfl (Or.inl rfl) rfl (hs.o rfl) ?_
        refine e_iconst (pc' := 126) rfl rfl kc_1 ?_
        refine e_next (pc' := 127) rfl rfl ?_
        refine e_putI (pc' := 130) rfl rfl (hs.o rfl) ?_
        refine e_next (pc' := 131) rfl rfl ?_
        refine e_getR (pc' := 134) rfl rfl (hs.o rfl) (hs.a rfl) ?_
        refine e_iconst (pc' := 135) rfl rfl kc_2 ?_
        refine e_next (pc' := 136) rfl rfl ?_
        refine e_bipush (pc' := 138) rfl rfl kb_97 ?_
        refine e_next (pc' := 139) rfl rfl ?_
        refine e_ciI (pc' := 142) rfl (e_sV (as := [_, _]) (fun _ => rfl) (Or.inl rfl) rfl (hs.o rfl) rfl rfl (Nat.le_of_ble_eq_true rfl) (Nat.le_of_ble_eq_true rfl) rfl) rfl rfl ?_
        refine qev.mono h (fun v _ I3 _ h => ?_)
        obtain ⟨r3, rfl, h⟩ := h
        refine ⟨r3, rfl, ?_⟩
        exact e_zret rfl h.1 h.2
  · replace h := h.1 (Decidable.not_not.mp hc)
    refine e_next (pc' := 89) rfl rfl ?_
    refine e_next (pc' := 90) rfl rfl ?_
    refine e_getI (pc' := 93) rfl (Or.inl rfl) rfl (hs.o rfl) ?_
    refine e_iconst (pc' := 94) rfl rfl kc_1 ?_
    refine e_next (pc' := 95) rfl rfl ?_
    refine e_putI (pc' := 98) rfl rfl (hs.o rfl) ?_
    refine e_next (pc' := 99) rfl rfl ?_
    refine e_getR (pc' := 102) rfl rfl (hs.o rfl) (hs.a rfl) ?_
    refine e_iconst (pc' := 103) rfl rfl kc_1 ?_
    refine e_iconst (pc' := 104) rfl rfl kc_0 ?_
    refine e_ciI (pc' := 107) rfl (e_sV (as := [_, _]) (fun _ => rfl) (Or.inl rfl) rfl (hs.o rfl) rfl rfl (Nat.le_of_ble_eq_true rfl) (Nat.le_of_ble_eq_true rfl) rfl) rfl rfl ?_
    refine qev.mono h (fun v _ I4 _ h => ?_)
    obtain ⟨r4, rfl, h⟩ := h
    refine ⟨r4, rfl, ?_⟩
    exact e_zret rfl h.1 h.2
theorem w57 {d : Nat} {x1 : Int32} {x2 : Int32} {g : qG} {I : qI} {J : qJ} {Q : qQ} (hs : qSh g)  (h : ((x1 = nI 67 → qC d 63 [.ref 11, .int x2] g (qw I 11 2 ((I 11 2) + (nI 1))) J (fun v _ I1 _ => ∃ r1, v = some (.int r1) ∧ ((r1 = 0 → Q (some (.int (nI 0))) g I1 J) ∧ (¬ r1 = 0 → qC d 53 [.ref 11, .int (x2 + (nI 1))] g I1 J (fun v _ I2 _ => ∃ r2, v = some (.int r2) ∧ ((r2 = 0 → Q (some (.int (nI 0))) g I2 J) ∧ (¬ r2 = 0 → qC d 64 [.ref 11, .int (nI 44)] g I2 J (fun v _ I3 _ => ∃ r3, v = some (.int r3) ∧ ((r3 = 0 → Q (some (.int (nI 0))) g I3 J) ∧ (¬ r3 = 0 → qC d 53 [.ref 11, .int (x2 + (nI 1))] g I3 J (fun v _ I4 _ => ∃ r4, v = some (.int r4) ∧ ((r4 = 0 → Q (some (.int (nI 0))) g I4 J) ∧ (¬ r4 = 0 → qC d 64 [.ref 11, .int (nI 41)] g I4 J (fun v _ I5 _ => ∃ r5, v = some (.int r5) ∧ ((r5 = 0 → Q (some (.int (nI 0))) g I5 J) ∧ (¬ r5 = 0 → qC d 33 [.ref 7, .int (nI 15), .int (nI 0)] g I5 J (fun v _ I6 _ => ∃ r6, v = some (.int r6) ∧ ((r6 = 0 → Q (some (.int (nI 0))) g I6 J) ∧ (¬ r6 = 0 → Q (some (.int (nI 1))) g I6 J))))))))))))))))))) ∧ (x1 = nI 68 → qC d 58 [.ref 11, .int x2, .int (nI 4)] g I J (fun v _ I7 _ => ∃ r7, v = some (.int r7) ∧ (r7 = 0 ∨ r7 = 1) ∧ Q (some (.int r7)) g I7 J)) ∧ (x1 = nI 69 → qC d 58 [.ref 11, .int x2, .int (nI 7)] g I J (fun v _ I8 _ => ∃ r8, v = some (.int r8) ∧ (r8 = 0 ∨ r8 = 1) ∧ Q (some (.int r8)) g I8 J)) ∧ (x1 = nI 70 → Q (some (.int (nI 0))) g I J) ∧ (x1 = nI 71 → Q (some (.int (nI 0))) g I J) ∧ (x1 = nI 72 → qC d 63 [.ref 11, .int x2] g (qw I 11 2 ((I 11 2) + (nI 1))) J (fun v _ I9 _ => ∃ r9, v = some (.int r9) ∧ ((r9 = 0 → Q (some (.int (nI 0))) g I9 J) ∧ (¬ r9 = 0 → qC d 61 [.ref 11, .int (x2 + (nI 1))] g I9 J (fun v _ I10 _ => ∃ r10, v = some (.int r10) ∧ ((r10 = 0 → Q (some (.int (nI 0))) g I10 J) ∧ (¬ r10 = 0 → Q (some (.int (nI 1))) g I10 J))))))) ∧ (x1 = nI 73 → Q (some (.int (nI 0))) g I J) ∧ (x1 = nI 74 → Q (some (.int (nI 0))) g I J) ∧ (x1 = nI 75 → Q (some (.int (nI 0))) g I J) ∧ (x1 = nI 76 → qC d 58 [.ref 11, .int x2, .int (nI 6)] g I J (fun v _ I11 _ => ∃ r11, v = some (.int r11) ∧ (r11 = 0 ∨ r11 = 1) ∧ Q (some (.int r11)) g I11 J)) ∧ (x1 = nI 77 → Q (some (.int (nI 0))) g I J) ∧ (x1 = nI 78 → Q (some (.int (nI 0))) g I J) ∧ (x1 = nI 79 → Q (some (.int (nI 0))) g I J) ∧ (x1 = nI 80 → Q (some (.int (nI 0))) g I J) ∧ (x1 = nI 81 → qC d 59 [.ref 11, .int x2] g I J (fun v _ I12 _ => ∃ r12, v = some (.int r12) ∧ (r12 = 0 ∨ r12 = 1) ∧ Q (some (.int r12)) g I12 J)) ∧ (x1 = nI 82 → qC d 58 [.ref 11, .int x2, .int (nI 8)] g I J (fun v _ I13 _ => ∃ r13, v = some (.int r13) ∧ (r13 = 0 ∨ r13 = 1) ∧ Q (some (.int r13)) g I13 J)) ∧ (x1 = nI 83 → qC d 58 [.ref 11, .int x2, .int (nI 5)] g I J (fun v _ I14 _ => ∃ r14, v = some (.int r14) ∧ (r14 = 0 ∨ r14 = 1) ∧ Q (some (.int r14)) g I14 J)) ∧ (x1 = nI 84 → qC d 60 [.ref 11, .int x2] g I J (fun v _ I15 _ => ∃ r15, v = some (.int r15) ∧ (r15 = 0 ∨ r15 = 1) ∧ Q (some (.int r15)) g I15 J)) ∧ (¬ x1 = nI 67 ∧ ¬ x1 = nI 68 ∧ ¬ x1 = nI 69 ∧ ¬ x1 = nI 70 ∧ ¬ x1 = nI 71 ∧ ¬ x1 = nI 72 ∧ ¬ x1 = nI 73 ∧ ¬ x1 = nI 74 ∧ ¬ x1 = nI 75 ∧ ¬ x1 = nI 76 ∧ ¬ x1 = nI 77 ∧ ¬ x1 = nI 78 ∧ ¬ x1 = nI 79 ∧ ¬ x1 = nI 80 ∧ ¬ x1 = nI 81 ∧ ¬ x1 = nI 82 ∧ ¬ x1 = nI 83 ∧ ¬ x1 = nI 84 → Q (some (.int (nI 0))) g I J))) : qC (d + 1) 57 [.ref 11, .int x1, .int x2] g I J Q := by
  show qev (d + 1) 57 (0, [.ref 11, .int x1, .int x2], [], g, I, J) Q
  refine e_next (pc' := 1) rfl rfl ?_
  by_cases hc67 : x1 = nI 67
  · refine e_tswI (t := 138) 67 rfl hc67 (by decide) (by decide) ?_
    replace h := h.1 hc67
    refine e_next (pc' := 139) rfl rfl ?_
    refine e_next (pc' := 140) rfl rfl ?_
    refine e_getI (pc' := 143) rfl (Or.inl rfl) rfl (hs.o rfl) ?_
    refine e_iconst (pc' := 144) rfl rfl kc_1 ?_
    refine e_next (pc' := 145) rfl rfl ?_
    refine e_putI (pc' := 148) rfl rfl (hs.o rfl) ?_
    refine e_next (pc' := 149) rfl rfl ?_
    refine e_next (pc' := 150) rfl rfl ?_
    refine e_ciI (pc' := 153) rfl (e_sV (as := [_]) (fun _ => rfl) (Or.inl rfl) rfl (hs.o rfl) rfl rfl (Nat.le_of_ble_eq_true rfl) (Nat.le_of_ble_eq_true rfl) rfl) rfl rfl ?_
    refine qev.mono h (fun v _ I1 _ h => ?_)
    obtain ⟨r1, rfl, h⟩ := h
    refine ⟨r1, rfl, ?_⟩
    refine e_if (r1 = 0) (pc' := 156) rfl rfl e_d (fun hc => ?_) (fun hc => ?_)
    · replace h := h.1 hc
      refine e_iconst (pc' := 212) rfl rfl kc_0 ?_
      exact e_zret rfl (Or.inl nI_0) h
    · replace h := h.2 hc
      refine e_next (pc' := 157) rfl rfl ?_
      refine e_next (pc' := 158) rfl rfl ?_
      refine e_iconst (pc' := 159) rfl rfl kc_1 ?_
      refine e_next (pc' := 160) rfl rfl ?_
      refine e_ciI (pc' := 163) rfl (e_sV (as := [_]) (fun _ => rfl) (Or.inl rfl) rfl (hs.o rfl) rfl rfl (Nat.le_of_ble_eq_true rfl) (Nat.le_of_ble_eq_true rfl) rfl) rfl rfl ?_
      refine qev.mono h (fun v _ I2 _ h => ?_)
      obtain ⟨r2, rfl, h⟩ := h
      refine ⟨r2, rfl, ?_⟩
      refine e_if (r2 = 0) (pc' := 166) rfl rfl e_d (fun hc => ?_) (fun hc => ?_)
      · replace h := h.1 hc
        refine e_iconst (pc' := 212) rfl rfl kc_0 ?_
        exact e_zret rfl (Or.inl nI_0) h
      · replace h := h.2 hc
        refine e_next (pc' := 167) rfl rfl ?_
        refine e_bipush (pc' := 169) rfl rfl kb_44 ?_
        refine e_ciI (pc' := 172) rfl (e_sV (as := [_]) (fun _ => rfl) (Or.inl rfl) rfl (hs.o rfl) rfl rfl (Nat.le_of_ble_eq_true rfl) (Nat.le_of_ble_eq_true rfl) rfl) rfl rfl ?_
        refine qev.mono h (fun v _ I3 _ h => ?_)
        obtain ⟨r3, rfl, h⟩ := h
        refine ⟨r3, rfl, ?_⟩
        refine e_if (r3 = 0) (pc' := 175) rfl rfl e_d (fun hc => ?_) (fun hc => ?_)
        · replace h := h.1 hc
          refine e_iconst (pc' := 212) rfl rfl kc_0 ?_
          exact e_zret rfl (Or.inl nI_0) h
        · replace h := h.2 hc
          refine e_next (pc' := 176) rfl rfl ?_
          refine e_next (pc' := 177) rfl rfl ?_
          refine e_iconst (pc' := 178) rfl rfl kc_1 ?_
          refine e_next (pc' := 179) rfl rfl ?_
          refine e_ciI (pc' := 182) rfl (e_sV (as := [_]) (fun _ => rfl) (Or.inl rfl) rfl (hs.o rfl) rfl rfl (Nat.le_of_ble_eq_true rfl) (Nat.le_of_ble_eq_true rfl) rfl) rfl rfl ?_
          refine qev.mono h (fun v _ I4 _ h => ?_)
          obtain ⟨r4, rfl, h⟩ := h
          refine ⟨r4, rfl, ?_⟩
          refine e_if (r4 = 0) (pc' := 185) rfl rfl e_d (fun hc => ?_) (fun hc => ?_)
          · replace h := h.1 hc
            refine e_iconst (pc' := 212) rfl rfl kc_0 ?_
            exact e_zret rfl (Or.inl nI_0) h
          · replace h := h.2 hc
            refine e_next (pc' := 186) rfl rfl ?_
            refine e_bipush (pc' := 188) rfl rfl kb_41 ?_
            refine e_ciI (pc' := 191) rfl (e_sV (as := [_]) (fun _ => rfl) (Or.inl rfl) rfl (hs.o rfl) rfl rfl (Nat.le_of_ble_eq_true rfl) (Nat.le_of_ble_eq_true rfl) rfl) rfl rfl ?_
            refine qev.mono h (fun v _ I5 _ h => ?_)
            obtain ⟨r5, rfl, h⟩ := h
            refine ⟨r5, rfl, ?_⟩
            refine e_if (r5 = 0) (pc' := 194) rfl rfl e_d (fun hc => ?_) (fun hc => ?_)
            · replace h := h.1 hc
              refine e_iconst (pc' := 212) rfl rfl kc_0 ?_
              exact e_zret rfl (Or.inl nI_0) h
            · replace h := h.2 hc
              refine e_next (pc' := 195) rfl rfl ?_
              refine e_getR (pc' := 198) rfl rfl (hs.o rfl) (hs.a rfl) ?_
              refine e_bipush (pc' := 200) rfl rfl kb_15 ?_
              refine e_iconst (pc' := 201) rfl rfl kc_0 ?_
              refine e_ciI (pc' := 204) rfl (e_sV (as := [_, _]) (fun _ => rfl) (Or.inl rfl) rfl (hs.o rfl) rfl rfl (Nat.le_of_ble_eq_true rfl) (Nat.le_of_ble_eq_true rfl) rfl) rfl rfl ?_
              refine qev.mono h (fun v _ I6 _ h => ?_)
              obtain ⟨r6, rfl, h⟩ := h
              refine ⟨r6, rfl, ?_⟩
              refine e_if (r6 = 0) (pc' := 207) rfl rfl e_d (fun hc => ?_) (fun hc => ?_)
              · replace h := h.1 hc
                refine e_iconst (pc' := 212) rfl rfl kc_0 ?_
                exact e_zret rfl (Or.inl nI_0) h
              · replace h := h.2 hc
                refine e_iconst (pc' := 208) rfl rfl kc_1 ?_
                refine e_next (pc' := 212) rfl rfl ?_
                exact e_zret rfl (Or.inr nI_one) h
  replace h := h.2
  by_cases hc68 : x1 = nI 68
  · refine e_tswI (t := 88) 68 rfl hc68 (by decide) (by decide) ?_
    replace h := h.1 hc68
    refine e_next (pc' := 89) rfl rfl ?_
    refine e_next (pc' := 90) rfl rfl ?_
    refine e_iconst (pc' := 91) rfl rfl kc_4 ?_
    refine e_ciI (pc' := 94) rfl (e_sV (as := [_, _]) (fun _ => rfl) (Or.inl rfl) rfl (hs.o rfl) rfl rfl (Nat.le_of_ble_eq_true rfl) (Nat.le_of_ble_eq_true rfl) rfl) rfl rfl ?_
    refine qev.mono h (fun v _ I7 _ h => ?_)
    obtain ⟨r7, rfl, h⟩ := h
    refine ⟨r7, rfl, ?_⟩
    exact e_zret rfl h.1 h.2
  replace h := h.2
  by_cases hc69 : x1 = nI 69
  · refine e_tswI (t := 110) 69 rfl hc69 (by decide) (by decide) ?_
    replace h := h.1 hc69
    refine e_next (pc' := 111) rfl rfl ?_
    refine e_next (pc' := 112) rfl rfl ?_
    refine e_bipush (pc' := 114) rfl rfl kb_7 ?_
    refine e_ciI (pc' := 117) rfl (e_sV (as := [_, _]) (fun _ => rfl) (Or.inl rfl) rfl (hs.o rfl) rfl rfl (Nat.le_of_ble_eq_true rfl) (Nat.le_of_ble_eq_true rfl) rfl) rfl rfl ?_
    refine qev.mono h (fun v _ I8 _ h => ?_)
    obtain ⟨r8, rfl, h⟩ := h
    refine ⟨r8, rfl, ?_⟩
    exact e_zret rfl h.1 h.2
  replace h := h.2
  by_cases hc70 : x1 = nI 70
  · refine e_tswI (t := 247) 70 rfl hc70 (by decide) (by decide) ?_
    replace h := h.1 hc70
    refine e_iconst (pc' := 248) rfl rfl kc_0 ?_
    exact e_zret rfl (Or.inl nI_0) h
  replace h := h.2
  by_cases hc71 : x1 = nI 71
  · refine e_tswI (t := 247) 71 rfl hc71 (by decide) (by decide) ?_
    replace h := h.1 hc71
    refine e_iconst (pc' := 248) rfl rfl kc_0 ?_
    exact e_zret rfl (Or.inl nI_0) h
  replace h := h.2
  by_cases hc72 : x1 = nI 72
  · refine e_tswI (t := 213) 72 rfl hc72 (by decide) (by decide) ?_
    replace h := h.1 hc72
    refine e_next (pc' := 214) rfl rfl ?_
    refine e_next (pc' := 215) rfl rfl ?_
    refine e_getI (pc' := 218) rfl (Or.inl rfl) rfl (hs.o rfl) ?_
    refine e_iconst (pc' := 219) rfl rfl kc_1 ?_
    refine e_next (pc' := 220) rfl rfl ?_
    refine e_putI (pc' := 223) rfl rfl (hs.o rfl) ?_
    refine e_next (pc' := 224) rfl rfl ?_
    refine e_next (pc' := 225) rfl rfl ?_
    refine e_ciI (pc' := 228) rfl (e_sV (as := [_]) (fun _ => rfl) (Or.inl rfl) rfl (hs.o rfl) rfl rfl (Nat.le_of_ble_eq_true rfl) (Nat.le_of_ble_eq_true rfl) rfl) rfl rfl ?_
    refine qev.mono h (fun v _ I9 _ h => ?_)
    obtain ⟨r9, rfl, h⟩ := h
    refine ⟨r9, rfl, ?_⟩
    refine e_if (r9 = 0) (pc' := 231) rfl rfl e_d (fun hc => ?_) (fun hc => ?_)
    · replace h := h.1 hc
      refine e_iconst (pc' := 246) rfl rfl kc_0 ?_
      exact e_zret rfl (Or.inl nI_0) h
    · replace h := h.2 hc
      refine e_next (pc' := 232) rfl rfl ?_
      refine e_next (pc' := 233) rfl rfl ?_
      refine e_iconst (pc' := 234) rfl rfl kc_1 ?_
      refine e_next (pc' := 235) rfl rfl ?_
      refine e_ciI (pc' := 238) rfl (e_sV (as := [_]) (fun _ => rfl) (Or.inl rfl) rfl (hs.o rfl) rfl rfl (Nat.le_of_ble_eq_true rfl) (Nat.le_of_ble_eq_true rfl) rfl) rfl rfl ?_
      refine qev.mono h (fun v _ I10 _ h => ?_)
      obtain ⟨r10, rfl, h⟩ := h
      refine ⟨r10, rfl, ?_⟩
      refine e_if (r10 = 0) (pc' := 241) rfl rfl e_d (fun hc => ?_) (fun hc => ?_)
      · replace h := h.1 hc
        refine e_iconst (pc' := 246) rfl rfl kc_0 ?_
        exact e_zret rfl (Or.inl nI_0) h
      · replace h := h.2 hc
        refine e_iconst (pc' := 242) rfl rfl kc_1 ?_
        refine e_next (pc' := 246) rfl rfl ?_
        exact e_zret rfl (Or.inr nI_one) h
  replace h := h.2
  by_cases hc73 : x1 = nI 73
  · refine e_tswI (t := 247) 73 rfl hc73 (by decide) (by decide) ?_
    replace h := h.1 hc73
    refine e_iconst (pc' := 248) rfl rfl kc_0 ?_
    exact e_zret rfl (Or.inl nI_0) h
  replace h := h.2
  by_cases hc74 : x1 = nI 74
  · refine e_tswI (t := 247) 74 rfl hc74 (by decide) (by decide) ?_
    replace h := h.1 hc74
    refine e_iconst (pc' := 248) rfl rfl kc_0 ?_
    exact e_zret rfl (Or.inl nI_0) h
  replace h := h.2
  by_cases hc75 : x1 = nI 75
  · refine e_tswI (t := 247) 75 rfl hc75 (by decide) (by decide) ?_
    replace h := h.1 hc75
    refine e_iconst (pc' := 248) rfl rfl kc_0 ?_
    exact e_zret rfl (Or.inl nI_0) h
  replace h := h.2
  by_cases hc76 : x1 = nI 76
  · refine e_tswI (t := 102) 76 rfl hc76 (by decide) (by decide) ?_
    replace h := h.1 hc76
    refine e_next (pc' := 103) rfl rfl ?_
    refine e_next (pc' := 104) rfl rfl ?_
    refine e_bipush (pc' := 106) rfl rfl kb_6 ?_
    refine e_ciI (pc' := 109) rfl (e_sV (as := [_, _]) (fun _ => rfl) (Or.inl rfl) rfl (hs.o rfl) rfl rfl (Nat.le_of_ble_eq_true rfl) (Nat.le_of_ble_eq_true rfl) rfl) rfl rfl ?_
    refine qev.mono h (fun v _ I11 _ h => ?_)
    obtain ⟨r11, rfl, h⟩ := h
    refine ⟨r11, rfl, ?_⟩
    exact e_zret rfl h.1 h.2
  replace h := h.2
  by_cases hc77 : x1 = nI 77
  · refine e_tswI (t := 247) 77 rfl hc77 (by decide) (by decide) ?_
    replace h := h.1 hc77
    refine e_iconst (pc' := 248) rfl rfl kc_0 ?_
    exact e_zret rfl (Or.inl nI_0) h
  replace h := h.2
  by_cases hc78 : x1 = nI 78
  · refine e_tswI (t := 247) 78 rfl hc78 (by decide) (by decide) ?_
    replace h := h.1 hc78
    refine e_iconst (pc' := 248) rfl rfl kc_0 ?_
    exact e_zret rfl (Or.inl nI_0) h
  replace h := h.2
  by_cases hc79 : x1 = nI 79
  · refine e_tswI (t := 247) 79 rfl hc79 (by decide) (by decide) ?_
    replace h := h.1 hc79
    refine e_iconst (pc' := 248) rfl rfl kc_0 ?_
    exact e_zret rfl (Or.inl nI_0) h
  replace h := h.2
  by_cases hc80 : x1 = nI 80
  · refine e_tswI (t := 247) 80 rfl hc80 (by decide) (by decide) ?_
    replace h := h.1 hc80
    refine e_iconst (pc' := 248) rfl rfl kc_0 ?_
    exact e_zret rfl (Or.inl nI_0) h
  replace h := h.2
  by_cases hc81 : x1 = nI 81
  · refine e_tswI (t := 126) 81 rfl hc81 (by decide) (by decide) ?_
    replace h := h.1 hc81
    refine e_next (pc' := 127) rfl rfl ?_
    refine e_next (pc' := 128) rfl rfl ?_
    refine e_ciI (pc' := 131) rfl (e_sV (as := [_]) (fun _ => rfl) (Or.inl rfl) rfl (hs.o rfl) rfl rfl (Nat.le_of_ble_eq_true rfl) (Nat.le_of_ble_eq_true rfl) rfl) rfl rfl ?_
    refine qev.mono h (fun v _ I12 _ h => ?_)
    obtain ⟨r12, rfl, h⟩ := h
    refine ⟨r12, rfl, ?_⟩
    exact e_zret rfl h.1 h.2
  replace h := h.2
  by_cases hc82 : x1 = nI 82
  · refine e_tswI (t := 118) 82 rfl hc82 (by decide) (by decide) ?_
    replace h := h.1 hc82
    refine e_next (pc' := 119) rfl rfl ?_
    refine e_next (pc' := 120) rfl rfl ?_
    refine e_bipush (pc' := 122) rfl rfl kb_8 ?_
    refine e_ciI (pc' := 125) rfl (e_sV (as := [_, _]) (fun _ => rfl) (Or.inl rfl) rfl (hs.o rfl) rfl rfl (Nat.le_of_ble_eq_true rfl) (Nat.le_of_ble_eq_true rfl) rfl) rfl rfl ?_
    refine qev.mono h (fun v _ I13 _ h => ?_)
    obtain ⟨r13, rfl, h⟩ := h
    refine ⟨r13, rfl, ?_⟩
    exact e_zret rfl h.1 h.2
  replace h := h.2
  by_cases hc83 : x1 = nI 83
  · refine e_tswI (t := 95) 83 rfl hc83 (by decide) (by decide) ?_
    replace h := h.1 hc83
    refine e_next (pc' := 96) rfl rfl ?_
    refine e_next (pc' := 97) rfl rfl ?_
    refine e_iconst (pc' := 98) rfl rfl kc_5 ?_
    refine e_ciI (pc' := 101) rfl (e_sV (as := [_, _]) (fun _ => rfl) (Or.inl rfl) rfl (hs.o rfl) rfl rfl (Nat.le_of_ble_eq_true rfl) (Nat.le_of_ble_eq_true rfl) rfl) rfl rfl ?_
    refine qev.mono h (fun v _ I14 _ h => ?_)
    obtain ⟨r14, rfl, h⟩ := h
    refine ⟨r14, rfl, ?_⟩
    exact e_zret rfl h.1 h.2
  replace h := h.2
  by_cases hc84 : x1 = nI 84
  · refine e_tswI (t := 132) 84 rfl hc84 (by decide) (by decide) ?_
    replace h := h.1 hc84
    refine e_next (pc' := 133) rfl rfl ?_
    refine e_next (pc' := 134) rfl rfl ?_
    refine e_ciI (pc' := 137) rfl (e_sV (as := [_]) (fun _ => rfl) (Or.inl rfl) rfl (hs.o rfl) rfl rfl (Nat.le_of_ble_eq_true rfl) (Nat.le_of_ble_eq_true rfl) rfl) rfl rfl ?_
    refine qev.mono h (fun v _ I15 _ h => ?_)
    obtain ⟨r15, rfl, h⟩ := h
    refine ⟨r15, rfl, ?_⟩
    exact e_zret rfl h.1 h.2
  replace h := h.2
  replace h := h ⟨hc67, hc68, hc69, hc70, hc71, hc72, hc73, hc74, hc75, hc76, hc77, hc78, hc79, hc80, hc81, hc82, hc83, hc84⟩
  refine e_tswO (t := 247) (lo := 67) (hi := 84) rfl (fun k h1 h2 => ?_) (by decide) (by decide) ?_
  · rcases (show k = 67 ∨ k = 68 ∨ k = 69 ∨ k = 70 ∨ k = 71 ∨ k = 72 ∨ k = 73 ∨ k = 74 ∨ k = 75 ∨ k = 76 ∨ k = 77 ∨ k = 78 ∨ k = 79 ∨ k = 80 ∨ k = 81 ∨ k = 82 ∨ k = 83 ∨ k = 84 by omega) with rfl | rfl | rfl | rfl | rfl | rfl | rfl | rfl | rfl | rfl | rfl | rfl | rfl | rfl | rfl | rfl | rfl | rfl
    · exact hc67
    · exact hc68
    · exact hc69
    · exact hc70
    · exact hc71
    · exact hc72
    · exact hc73
    · exact hc74
    · exact hc75
    · exact hc76
    · exact hc77
    · exact hc78
    · exact hc79
    · exact hc80
    · exact hc81
    · exact hc82
    · exact hc83
    · exact hc84
  refine e_iconst (pc' := 248) rfl rfl kc_0 ?_
  exact e_zret rfl (Or.inl nI_0) h
theorem w58 {d : Nat} {x1 : Int32} {x2 : Int32} {g : qG} {I : qI} {J : qJ} {Q : qQ} (hs : qSh g)  (h : qC d 62 [.ref 11, .int x1] g (qw I 11 2 ((I 11 2) + (nI 1))) J (fun v _ I1 _ => ∃ r1, v = some (.int r1) ∧ ((r1 = 0 → Q (some (.int (nI 0))) g I1 J) ∧ (¬ r1 = 0 → qC d 33 [.ref 7, .int x2, .int (nI 0)] g I1 J (fun v _ I2 _ => ∃ r2, v = some (.int r2) ∧ ((r2 = 0 → Q (some (.int (nI 0))) g I2 J) ∧ (¬ r2 = 0 → Q (some (.int (nI 1))) g I2 J))))))) : qC (d + 1) 58 [.ref 11, .int x1, .int x2] g I J Q := by
  show qev (d + 1) 58 (0, [.ref 11, .int x1, .int x2], [], g, I, J) Q
  refine e_next (pc' := 1) rfl rfl ?_
  refine e_next (pc' := 2) rfl rfl ?_
  refine e_getI (pc' := 5) rfl (Or.inl rfl) rfl (hs.o rfl) ?_
  refine e_iconst (pc' := 6) rfl rfl kc_1 ?_
  refine e_next (pc' := 7) rfl rfl ?_
  refine e_putI (pc' := 10) rfl rfl (hs.o rfl) ?_
  refine e_next (pc' := 11) rfl rfl ?_
  refine e_next (pc' := 12) rfl rfl ?_
  refine e_ciI (pc' := 15) rfl (e_sV (as := [_]) (fun _ => rfl) (Or.inl rfl) rfl (hs.o rfl) rfl rfl (Nat.le_of_ble_eq_true rfl) (Nat.le_of_ble_eq_true rfl) rfl) rfl rfl ?_
  refine qev.mono h (fun v _ I1 _ h => ?_)
  obtain ⟨r1, rfl, h⟩ := h
  refine ⟨r1, rfl, ?_⟩
  refine e_if (r1 = 0) (pc' := 18) rfl rfl e_d (fun hc => ?_) (fun hc => ?_)
  · replace h := h.1 hc
    refine e_iconst (pc' := 35) rfl rfl kc_0 ?_
    exact e_zret rfl (Or.inl nI_0) h
  · replace h := h.2 hc
    refine e_next (pc' := 19) rfl rfl ?_
    refine e_getR (pc' := 22) rfl rfl (hs.o rfl) (hs.a rfl) ?_
    refine e_next (pc' := 23) rfl rfl ?_
    refine e_iconst (pc' := 24) rfl rfl kc_0 ?_
    refine e_ciI (pc' := 27) rfl (e_sV (as := [_, _]) (fun _ => rfl) (Or.inl rfl) rfl (hs.o rfl) rfl rfl (Nat.le_of_ble_eq_true rfl) (Nat.le_of_ble_eq_true rfl) rfl) rfl rfl ?_
    refine qev.mono h (fun v _ I2 _ h => ?_)
    obtain ⟨r2, rfl, h⟩ := h
    refine ⟨r2, rfl, ?_⟩
    refine e_if (r2 = 0) (pc' := 30) rfl rfl e_d (fun hc => ?_) (fun hc => ?_)
    · replace h := h.1 hc
      refine e_iconst (pc' := 35) rfl rfl kc_0 ?_
      exact e_zret rfl (Or.inl nI_0) h
    · replace h := h.2 hc
      refine e_iconst (pc' := 31) rfl rfl kc_1 ?_
      refine e_next (pc' := 35) rfl rfl ?_
      exact e_zret rfl (Or.inr nI_one) h
theorem w59 {d : Nat} {x1 : Int32} {g : qG} {I : qI} {J : qJ} {Q : qQ} (hs : qSh g)  (h : qC d 67 [.ref 11] g (qw I 11 2 ((I 11 2) + (nI 1))) J (fun v _ I1 _ => ∃ r1, v = some (.int r1) ∧ ((r1 < (nI 50) → Q (some (.int (nI 0))) g I1 J) ∧ (¬ r1 < (nI 50) → ((r1 ≤ (nI 57) → qC d 62 [.ref 11, .int x1] g (qw I1 11 2 ((I1 11 2) + (nI 1))) J (fun v _ I2 _ => ∃ r2, v = some (.int r2) ∧ ((r2 = 0 → Q (some (.int (nI 0))) g I2 J) ∧ (¬ r2 = 0 → qC d 33 [.ref 7, .int (nI 9), .int (r1 - (nI 48))] g I2 J (fun v _ I3 _ => ∃ r3, v = some (.int r3) ∧ ((r3 = 0 → Q (some (.int (nI 0))) g I3 J) ∧ (¬ r3 = 0 → Q (some (.int (nI 1))) g I3 J))))))) ∧ (¬ r1 ≤ (nI 57) → Q (some (.int (nI 0))) g I1 J)))))) : qC (d + 1) 59 [.ref 11, .int x1] g I J Q := by
  show qev (d + 1) 59 (0, [.ref 11, .int x1, qpad], [], g, I, J) Q
  refine e_next (pc' := 1) rfl rfl ?_
  refine e_next (pc' := 2) rfl rfl ?_
  refine e_getI (pc' := 5) rfl (Or.inl rfl) rfl (hs.o rfl) ?_
  refine e_iconst (pc' := 6) rfl rfl kc_1 ?_
  refine e_next (pc' := 7) rfl rfl ?_
  refine e_putI (pc' := 10) rfl rfl (hs.o rfl) ?_
  refine e_next (pc' := 11) rfl rfl ?_
  refine e_ciI (pc' := 14) rfl (e_sV (as := []) (fun _ => rfl) (Or.inl rfl) rfl (hs.o rfl) rfl rfl (Nat.le_of_ble_eq_true rfl) (Nat.le_of_ble_eq_true rfl) rfl) rfl rfl ?_
  refine qev.mono h (fun v _ I1 _ h => ?_)
  obtain ⟨r1, rfl, h⟩ := h
  refine ⟨r1, rfl, ?_⟩
  refine e_next (pc' := 15) (ls' := [_, _, _]) rfl rfl ?_
  refine e_next (pc' := 16) rfl rfl ?_
  refine e_bipush (pc' := 18) rfl rfl kb_50 ?_
  refine e_icmp (r1 < (nI 50)) (pc' := 21) rfl rfl e_d (fun hc => ?_) (fun hc => ?_)
  · replace h := h.1 hc
    refine e_iconst (pc' := 28) rfl rfl kc_0 ?_
    exact e_zret rfl (Or.inl nI_0) h
  · replace h := h.2 hc
    refine e_next (pc' := 22) rfl rfl ?_
    refine e_bipush (pc' := 24) rfl rfl kb_57 ?_
    refine e_icmp (r1 ≤ (nI 57)) (pc' := 27) rfl rfl e_d (fun hc => ?_) (fun hc => ?_)
    · replace h := h.1 hc
      refine e_next (pc' := 30) rfl rfl ?_
      refine e_next (pc' := 31) rfl rfl ?_
      refine e_getI (pc' := 34) rfl (Or.inl rfl) rfl (hs.o rfl) ?_
      refine e_iconst (pc' := 35) rfl rfl kc_1 ?_
      refine e_next (pc' := 36) rfl rfl ?_
      refine e_putI (pc' := 39) rfl rfl (hs.o rfl) ?_
      refine e_next (pc' := 40) rfl rfl ?_
      refine e_next (pc' := 41) rfl rfl ?_
      refine e_ciI (pc' := 44) rfl (e_sV (as := [_]) (fun _ => rfl) (Or.inl rfl) rfl (hs.o rfl) rfl rfl (Nat.le_of_ble_eq_true rfl) (Nat.le_of_ble_eq_true rfl) rfl) rfl rfl ?_
      refine qev.mono h (fun v _ I2 _ h => ?_)
      obtain ⟨r2, rfl, h⟩ := h
      refine ⟨r2, rfl, ?_⟩
      refine e_if (r2 = 0) (pc' := 47) rfl rfl e_d (fun hc => ?_) (fun hc => ?_)
      · replace h := h.1 hc
        refine e_iconst (pc' := 68) rfl rfl kc_0 ?_
        exact e_zret rfl (Or.inl nI_0) h
      · replace h := h.2 hc
        refine e_next (pc' := 48) rfl rfl ?_
        refine e_getR (pc' := 51) rfl rfl (hs.o rfl) (hs.a rfl) ?_
        refine e_bipush (pc' := 53) rfl rfl kb_9 ?_
        refine e_next (pc' := 54) rfl rfl ?_
        refine e_bipush (pc' := 56) rfl rfl kb_48 ?_
        refine e_next (pc' := 57) rfl rfl ?_
        refine e_ciI (pc' := 60) rfl (e_sV (as := [_, _]) (fun _ => rfl) (Or.inl rfl) rfl (hs.o rfl) rfl rfl (Nat.le_of_ble_eq_true rfl) (Nat.le_of_ble_eq_true rfl) rfl) rfl rfl ?_
        refine qev.mono h (fun v _ I3 _ h => ?_)
        obtain ⟨r3, rfl, h⟩ := h
        refine ⟨r3, rfl, ?_⟩
        refine e_if (r3 = 0) (pc' := 63) rfl rfl e_d (fun hc => ?_) (fun hc => ?_)
        · replace h := h.1 hc
          refine e_iconst (pc' := 68) rfl rfl kc_0 ?_
          exact e_zret rfl (Or.inl nI_0) h
        · replace h := h.2 hc
          refine e_iconst (pc' := 64) rfl rfl kc_1 ?_
          refine e_next (pc' := 68) rfl rfl ?_
          exact e_zret rfl (Or.inr nI_one) h
    · replace h := h.2 hc
      refine e_iconst (pc' := 28) rfl rfl kc_0 ?_
      exact e_zret rfl (Or.inl nI_0) h
theorem w60 {d : Nat} {x1 : Int32} {g : qG} {I : qI} {J : qJ} {Q : qQ} (hs : qSh g)  (h : qC d 65 [.ref 11, .int (nI 1), .int (nI 24)] g (qw I 11 2 ((I 11 2) + (nI 1))) J (fun v _ I1 _ => ∃ r1, v = some (.int r1) ∧ ((r1 = 0 → Q (some (.int (nI 0))) g I1 J) ∧ (¬ r1 = 0 → qC d 62 [.ref 11, .int x1] g I1 J (fun v _ I2 _ => ∃ r2, v = some (.int r2) ∧ ((r2 = 0 → Q (some (.int (nI 0))) g I2 J) ∧ (¬ r2 = 0 → qC d 33 [.ref 7, .int (nI 10), .int (I1 11 4)] g I2 J (fun v _ I3 _ => ∃ r3, v = some (.int r3) ∧ ((r3 = 0 → Q (some (.int (nI 0))) g I3 J) ∧ (¬ r3 = 0 → Q (some (.int (nI 1))) g I3 J)))))))))) : qC (d + 1) 60 [.ref 11, .int x1] g I J Q := by
  show qev (d + 1) 60 (0, [.ref 11, .int x1, qpad], [], g, I, J) Q
  refine e_next (pc' := 1) rfl rfl ?_
  refine e_next (pc' := 2) rfl rfl ?_
  refine e_getI (pc' := 5) rfl (Or.inl rfl) rfl (hs.o rfl) ?_
  refine e_iconst (pc' := 6) rfl rfl kc_1 ?_
  refine e_next (pc' := 7) rfl rfl ?_
  refine e_putI (pc' := 10) rfl rfl (hs.o rfl) ?_
  refine e_next (pc' := 11) rfl rfl ?_
  refine e_iconst (pc' := 12) rfl rfl kc_1 ?_
  refine e_bipush (pc' := 14) rfl rfl kb_24 ?_
  refine e_ciI (pc' := 17) rfl (e_sV (as := [_, _]) (fun _ => rfl) (Or.inl rfl) rfl (hs.o rfl) rfl rfl (Nat.le_of_ble_eq_true rfl) (Nat.le_of_ble_eq_true rfl) rfl) rfl rfl ?_
  refine qev.mono h (fun v _ I1 _ h => ?_)
  obtain ⟨r1, rfl, h⟩ := h
  refine ⟨r1, rfl, ?_⟩
  refine e_if (¬ r1 = 0) (pc' := 20) rfl rfl e_d (fun hc => ?_) (fun hc => ?_)
  · replace h := h.2 hc
    refine e_next (pc' := 23) rfl rfl ?_
    refine e_getI (pc' := 26) rfl (Or.inl rfl) rfl (hs.o rfl) ?_
    refine e_next (pc' := 27) (ls' := [_, _, _]) rfl rfl ?_
    refine e_next (pc' := 28) rfl rfl ?_
    refine e_next (pc' := 29) rfl rfl ?_
    refine e_ciI (pc' := 32) rfl (e_sV (as := [_]) (fun _ => rfl) (Or.inl rfl) rfl (hs.o rfl) rfl rfl (Nat.le_of_ble_eq_true rfl) (Nat.le_of_ble_eq_true rfl) rfl) rfl rfl ?_
    refine qev.mono h (fun v _ I2 _ h => ?_)
    obtain ⟨r2, rfl, h⟩ := h
    refine ⟨r2, rfl, ?_⟩
    refine e_if (r2 = 0) (pc' := 35) rfl rfl e_d (fun hc => ?_) (fun hc => ?_)
    · replace h := h.1 hc
      refine e_iconst (pc' := 53) rfl rfl kc_0 ?_
      exact e_zret rfl (Or.inl nI_0) h
    · replace h := h.2 hc
      refine e_next (pc' := 36) rfl rfl ?_
      refine e_getR (pc' := 39) rfl rfl (hs.o rfl) (hs.a rfl) ?_
      refine e_bipush (pc' := 41) rfl rfl kb_10 ?_
      refine e_next (pc' := 42) rfl rfl ?_
      refine e_ciI (pc' := 45) rfl (e_sV (as := [_, _]) (fun _ => rfl) (Or.inl rfl) rfl (hs.o rfl) rfl rfl (Nat.le_of_ble_eq_true rfl) (Nat.le_of_ble_eq_true rfl) rfl) rfl rfl ?_
      refine qev.mono h (fun v _ I3 _ h => ?_)
      obtain ⟨r3, rfl, h⟩ := h
      refine ⟨r3, rfl, ?_⟩
      refine e_if (r3 = 0) (pc' := 48) rfl rfl e_d (fun hc => ?_) (fun hc => ?_)
      · replace h := h.1 hc
        refine e_iconst (pc' := 53) rfl rfl kc_0 ?_
        exact e_zret rfl (Or.inl nI_0) h
      · replace h := h.2 hc
        refine e_iconst (pc' := 49) rfl rfl kc_1 ?_
        refine e_next (pc' := 53) rfl rfl ?_
        exact e_zret rfl (Or.inr nI_one) h
  · replace h := h.1 (Decidable.not_not.mp hc)
    refine e_iconst (pc' := 21) rfl rfl kc_0 ?_
    exact e_zret rfl (Or.inl nI_0) h
theorem w61 {d : Nat} {x1 : Int32} {g : qG} {I : qI} {J : qJ} {Q : qQ} (hs : qSh g)  (h : qC d 53 [.ref 11, .int x1] g I J (fun v _ I1 _ => ∃ r1, v = some (.int r1) ∧ ((r1 = 0 → Q (some (.int (nI 0))) g I1 J) ∧ (¬ r1 = 0 → qev (d + 1) 61 (12, [.ref 11, .int x1, .int (nI 1)], [], g, I1, J) Q)))) : qC (d + 1) 61 [.ref 11, .int x1] g I J Q := by
  show qev (d + 1) 61 (0, [.ref 11, .int x1, qpad], [], g, I, J) Q
  refine e_next (pc' := 1) rfl rfl ?_
  refine e_next (pc' := 2) rfl rfl ?_
  refine e_ciI (pc' := 5) rfl (e_sV (as := [_]) (fun _ => rfl) (Or.inl rfl) rfl (hs.o rfl) rfl rfl (Nat.le_of_ble_eq_true rfl) (Nat.le_of_ble_eq_true rfl) rfl) rfl rfl ?_
  refine qev.mono h (fun v _ I1 _ h => ?_)
  obtain ⟨r1, rfl, h⟩ := h
  refine ⟨r1, rfl, ?_⟩
  refine e_if (¬ r1 = 0) (pc' := 8) rfl rfl e_d (fun hc => ?_) (fun hc => ?_)
  · replace h := h.2 hc
    refine e_iconst (pc' := 11) rfl rfl kc_1 ?_
    refine e_next (pc' := 12) (ls' := [_, _, _]) rfl rfl ?_
    exact h
  · replace h := h.1 (Decidable.not_not.mp hc)
    refine e_iconst (pc' := 9) rfl rfl kc_0 ?_
    exact e_zret rfl (Or.inl nI_0) h
theorem w61_12 {d : Nat} {i1 : Int32} {i2 : Int32} {g : qG} {I : qI} {J : qJ} {Q : qQ} (hs : qSh g)  (h : (((nI 6) ≤ i2 → qC d 64 [.ref 11, .int (nI 41)] g I J (fun v _ I1 _ => ∃ r1, v = some (.int r1) ∧ (r1 = 0 ∨ r1 = 1) ∧ Q (some (.int r1)) g I1 J)) ∧ (¬ (nI 6) ≤ i2 → ((i2 < (nI 2) → qC d 64 [.ref 11, .int (nI 44)] g I J (fun v _ I2 _ => ∃ r2, v = some (.int r2) ∧ ((r2 = 0 → Q (some (.int (nI 0))) g I2 J) ∧ (¬ r2 = 0 → qC d 53 [.ref 11, .int i1] g I2 J (fun v _ I3 _ => ∃ r3, v = some (.int r3) ∧ ((r3 = 0 → Q (some (.int (nI 0))) g I3 J) ∧ (¬ r3 = 0 → qC d 33 [.ref 7, .int (nI 16), .int (nI 0)] g I3 J (fun v _ I4 _ => ∃ r4, v = some (.int r4) ∧ ((r4 = 0 → Q (some (.int (nI 0))) g I4 J) ∧ (¬ r4 = 0 → qev (d + 1) 61 (12, [.ref 11, .int i1, .int (i2 + (nI 1))], [], g, I4, J) Q)))))))))) ∧ (¬ i2 < (nI 2) → qC d 64 [.ref 11, .int (nI 41)] g I J (fun v _ I5 _ => ∃ r5, v = some (.int r5) ∧ ((r5 = 0 → qC d 64 [.ref 11, .int (nI 44)] g I5 J (fun v _ I6 _ => ∃ r6, v = some (.int r6) ∧ ((r6 = 0 → Q (some (.int (nI 0))) g I6 J) ∧ (¬ r6 = 0 → qC d 53 [.ref 11, .int i1] g I6 J (fun v _ I7 _ => ∃ r7, v = some (.int r7) ∧ ((r7 = 0 → Q (some (.int (nI 0))) g I7 J) ∧ (¬ r7 = 0 → qC d 33 [.ref 7, .int (nI 16), .int (nI 0)] g I7 J (fun v _ I8 _ => ∃ r8, v = some (.int r8) ∧ ((r8 = 0 → Q (some (.int (nI 0))) g I8 J) ∧ (¬ r8 = 0 → qev (d + 1) 61 (12, [.ref 11, .int i1, .int (i2 + (nI 1))], [], g, I8, J) Q)))))))))) ∧ (¬ r5 = 0 → Q (some (.int (nI 1))) g I5 J)))))))) : qev (d + 1) 61 (12, [.ref 11, .int i1, .int i2], [], g, I, J) Q := by
  refine e_next (pc' := 13) rfl rfl ?_
  refine e_bipush (pc' := 15) rfl rfl kb_6 ?_
  refine e_icmp ((nI 6) ≤ i2) (pc' := 18) rfl rfl e_d (fun hc => ?_) (fun hc => ?_)
  · replace h := h.1 hc
    refine e_next (pc' := 73) rfl rfl ?_
    refine e_bipush (pc' := 75) rfl rfl kb_41 ?_
    refine e_ciI (pc' := 78) rfl (e_sV (as := [_]) (fun _ => rfl) (Or.inl rfl) rfl (hs.o rfl) rfl rfl (Nat.le_of_ble_eq_true rfl) (Nat.le_of_ble_eq_true rfl) rfl) rfl rfl ?_
    refine qev.mono h (fun v _ I1 _ h => ?_)
    obtain ⟨r1, rfl, h⟩ := h
    refine ⟨r1, rfl, ?_⟩
    exact e_zret rfl h.1 h.2
  · replace h := h.2 hc
    refine e_next (pc' := 19) rfl rfl ?_
    refine e_iconst (pc' := 20) rfl rfl kc_2 ?_
    refine e_icmp (i2 < (nI 2)) (pc' := 23) rfl rfl e_d (fun hc => ?_) (fun hc => ?_)
    · replace h := h.1 hc
      refine e_next (pc' := 35) rfl rfl ?_
      refine e_bipush (pc' := 37) rfl rfl kb_44 ?_
      refine e_ciI (pc' := 40) rfl (e_sV (as := [_]) (fun _ => rfl) (Or.inl rfl) rfl (hs.o rfl) rfl rfl (Nat.le_of_ble_eq_true rfl) (Nat.le_of_ble_eq_true rfl) rfl) rfl rfl ?_
      refine qev.mono h (fun v _ I2 _ h => ?_)
      obtain ⟨r2, rfl, h⟩ := h
      refine ⟨r2, rfl, ?_⟩
      refine e_if (r2 = 0) (pc' := 43) rfl rfl e_d (fun hc => ?_) (fun hc => ?_)
      · replace h := h.1 hc
        refine e_iconst (pc' := 65) rfl rfl kc_0 ?_
        exact e_zret rfl (Or.inl nI_0) h
      · replace h := h.2 hc
        refine e_next (pc' := 44) rfl rfl ?_
        refine e_next (pc' := 45) rfl rfl ?_
        refine e_ciI (pc' := 48) rfl (e_sV (as := [_]) (fun _ => rfl) (Or.inl rfl) rfl (hs.o rfl) rfl rfl (Nat.le_of_ble_eq_true rfl) (Nat.le_of_ble_eq_true rfl) rfl) rfl rfl ?_
        refine qev.mono h (fun v _ I3 _ h => ?_)
        obtain ⟨r3, rfl, h⟩ := h
        refine ⟨r3, rfl, ?_⟩
        refine e_if (r3 = 0) (pc' := 51) rfl rfl e_d (fun hc => ?_) (fun hc => ?_)
        · replace h := h.1 hc
          refine e_iconst (pc' := 65) rfl rfl kc_0 ?_
          exact e_zret rfl (Or.inl nI_0) h
        · replace h := h.2 hc
          refine e_next (pc' := 52) rfl rfl ?_
          refine e_getR (pc' := 55) rfl rfl (hs.o rfl) (hs.a rfl) ?_
          refine e_bipush (pc' := 57) rfl rfl kb_16 ?_
          refine e_iconst (pc' := 58) rfl rfl kc_0 ?_
          refine e_ciI (pc' := 61) rfl (e_sV (as := [_, _]) (fun _ => rfl) (Or.inl rfl) rfl (hs.o rfl) rfl rfl (Nat.le_of_ble_eq_true rfl) (Nat.le_of_ble_eq_true rfl) rfl) rfl rfl ?_
          refine qev.mono h (fun v _ I4 _ h => ?_)
          obtain ⟨r4, rfl, h⟩ := h
          refine ⟨r4, rfl, ?_⟩
          refine e_if (¬ r4 = 0) (pc' := 64) rfl rfl e_d (fun hc => ?_) (fun hc => ?_)
          · replace h := h.2 hc
            refine e_iinc (pc' := 69) (ls' := [_, _, _]) (v := (nI 1)) rfl rfl kc_1 rfl rfl ?_
            refine e_next (pc' := 12) rfl rfl ?_
            exact h
          · replace h := h.1 (Decidable.not_not.mp hc)
            refine e_iconst (pc' := 65) rfl rfl kc_0 ?_
            exact e_zret rfl (Or.inl nI_0) h
    · replace h := h.2 hc
      refine e_next (pc' := 24) rfl rfl ?_
      refine e_bipush (pc' := 26) rfl rfl kb_41 ?_
      refine e_ciI (pc' := 29) rfl (e_sV (as := [_]) (fun _ => rfl) (Or.inl rfl) rfl (hs.o rfl) rfl rfl (Nat.le_of_ble_eq_true rfl) (Nat.le_of_ble_eq_true rfl) rfl) rfl rfl ?_
      refine qev.mono h (fun v _ I5 _ h => ?_)
      obtain ⟨r5, rfl, h⟩ := h
      refine ⟨r5, rfl, ?_⟩
      refine e_if (r5 = 0) (pc' := 32) rfl rfl e_d (fun hc => ?_) (fun hc => ?_)
      · replace h := h.1 hc
        refine e_next (pc' := 35) rfl rfl ?_
        refine e_bipush (pc' := 37) rfl rfl kb_44 ?_
        refine e_ciI (pc' := 40) rfl (e_sV (as := [_]) (fun _ => rfl) (Or.inl rfl) rfl (hs.o rfl) rfl rfl (Nat.le_of_ble_eq_true rfl) (Nat.le_of_ble_eq_true rfl) rfl) rfl rfl ?_
        refine qev.mono h (fun v _ I6 _ h => ?_)
        obtain ⟨r6, rfl, h⟩ := h
        refine ⟨r6, rfl, ?_⟩
        refine e_if (r6 = 0) (pc' := 43) rfl rfl e_d (fun hc => ?_) (fun hc => ?_)
        · replace h := h.1 hc
          refine e_iconst (pc' := 65) rfl rfl kc_0 ?_
          exact e_zret rfl (Or.inl nI_0) h
        · replace h := h.2 hc
          refine e_next (pc' := 44) rfl rfl ?_
          refine e_next (pc' := 45) rfl rfl ?_
          refine e_ciI (pc' := 48) rfl (e_sV (as := [_]) (fun _ => rfl) (Or.inl rfl) rfl (hs.o rfl) rfl rfl (Nat.le_of_ble_eq_true rfl) (Nat.le_of_ble_eq_true rfl) rfl) rfl rfl ?_
          refine qev.mono h (fun v _ I7 _ h => ?_)
          obtain ⟨r7, rfl, h⟩ := h
          refine ⟨r7, rfl, ?_⟩
          refine e_if (r7 = 0) (pc' := 51) rfl rfl e_d (fun hc => ?_) (fun hc => ?_)
          · replace h := h.1 hc
            refine e_iconst (pc' := 65) rfl rfl kc_0 ?_
            exact e_zret rfl (Or.inl nI_0) h
          · replace h := h.2 hc
            refine e_next (pc' := 52) rfl rfl ?_
            refine e_getR (pc' := 55) rfl rfl (hs.o rfl) (hs.a rfl) ?_
            refine e_bipush (pc' := 57) rfl rfl kb_16 ?_
            refine e_iconst (pc' := 58) rfl rfl kc_0 ?_
            refine e_ciI (pc' := 61) rfl (e_sV (as := [_, _]) (fun _ => rfl) (Or.inl rfl) rfl (hs.o rfl) rfl rfl (Nat.le_of_ble_eq_true rfl) (Nat.le_of_ble_eq_true rfl) rfl) rfl rfl ?_
            refine qev.mono h (fun v _ I8 _ h => ?_)
            obtain ⟨r8, rfl, h⟩ := h
            refine ⟨r8, rfl, ?_⟩
            refine e_if (¬ r8 = 0) (pc' := 64) rfl rfl e_d (fun hc => ?_) (fun hc => ?_)
            · replace h := h.2 hc
              refine e_iinc (pc' := 69) (ls' := [_, _, _]) (v := (nI 1)) rfl rfl kc_1 rfl rfl ?_
              refine e_next (pc' := 12) rfl rfl ?_
              exact h
            · replace h := h.1 (Decidable.not_not.mp hc)
              refine e_iconst (pc' := 65) rfl rfl kc_0 ?_
              exact e_zret rfl (Or.inl nI_0) h
      · replace h := h.2 hc
        refine e_iconst (pc' := 33) rfl rfl kc_1 ?_
        exact e_zret rfl (Or.inr nI_one) h
theorem w62 {d : Nat} {x1 : Int32} {g : qG} {I : qI} {J : qJ} {Q : qQ} (hs : qSh g)  (h : qC d 63 [.ref 11, .int x1] g I J (fun v _ I1 _ => ∃ r1, v = some (.int r1) ∧ ((r1 = 0 → Q (some (.int (nI 0))) g I1 J) ∧ (¬ r1 = 0 → qC d 53 [.ref 11, .int (x1 + (nI 1))] g I1 J (fun v _ I2 _ => ∃ r2, v = some (.int r2) ∧ ((r2 = 0 → Q (some (.int (nI 0))) g I2 J) ∧ (¬ r2 = 0 → qC d 64 [.ref 11, .int (nI 41)] g I2 J (fun v _ I3 _ => ∃ r3, v = some (.int r3) ∧ ((r3 = 0 → Q (some (.int (nI 0))) g I3 J) ∧ (¬ r3 = 0 → Q (some (.int (nI 1))) g I3 J)))))))))) : qC (d + 1) 62 [.ref 11, .int x1] g I J Q := by
  show qev (d + 1) 62 (0, [.ref 11, .int x1], [], g, I, J) Q
  refine e_next (pc' := 1) rfl rfl ?_
  refine e_next (pc' := 2) rfl rfl ?_
  refine e_ciI (pc' := 5) rfl (e_sV (as := [_]) (fun _ => rfl) (Or.inl rfl) rfl (hs.o rfl) rfl rfl (Nat.le_of_ble_eq_true rfl) (Nat.le_of_ble_eq_true rfl) rfl) rfl rfl ?_
  refine qev.mono h (fun v _ I1 _ h => ?_)
  obtain ⟨r1, rfl, h⟩ := h
  refine ⟨r1, rfl, ?_⟩
  refine e_if (r1 = 0) (pc' := 8) rfl rfl e_d (fun hc => ?_) (fun hc => ?_)
  · replace h := h.1 hc
    refine e_iconst (pc' := 32) rfl rfl kc_0 ?_
    exact e_zret rfl (Or.inl nI_0) h
  · replace h := h.2 hc
    refine e_next (pc' := 9) rfl rfl ?_
    refine e_next (pc' := 10) rfl rfl ?_
    refine e_iconst (pc' := 11) rfl rfl kc_1 ?_
    refine e_next (pc' := 12) rfl rfl ?_
    refine e_ciI (pc' := 15) rfl (e_sV (as := [_]) (fun _ => rfl) (Or.inl rfl) rfl (hs.o rfl) rfl rfl (Nat.le_of_ble_eq_true rfl) (Nat.le_of_ble_eq_true rfl) rfl) rfl rfl ?_
    refine qev.mono h (fun v _ I2 _ h => ?_)
    obtain ⟨r2, rfl, h⟩ := h
    refine ⟨r2, rfl, ?_⟩
    refine e_if (r2 = 0) (pc' := 18) rfl rfl e_d (fun hc => ?_) (fun hc => ?_)
    · replace h := h.1 hc
      refine e_iconst (pc' := 32) rfl rfl kc_0 ?_
      exact e_zret rfl (Or.inl nI_0) h
    · replace h := h.2 hc
      refine e_next (pc' := 19) rfl rfl ?_
      refine e_bipush (pc' := 21) rfl rfl kb_41 ?_
      refine e_ciI (pc' := 24) rfl (e_sV (as := [_]) (fun _ => rfl) (Or.inl rfl) rfl (hs.o rfl) rfl rfl (Nat.le_of_ble_eq_true rfl) (Nat.le_of_ble_eq_true rfl) rfl) rfl rfl ?_
      refine qev.mono h (fun v _ I3 _ h => ?_)
      obtain ⟨r3, rfl, h⟩ := h
      refine ⟨r3, rfl, ?_⟩
      refine e_if (r3 = 0) (pc' := 27) rfl rfl e_d (fun hc => ?_) (fun hc => ?_)
      · replace h := h.1 hc
        refine e_iconst (pc' := 32) rfl rfl kc_0 ?_
        exact e_zret rfl (Or.inl nI_0) h
      · replace h := h.2 hc
        refine e_iconst (pc' := 28) rfl rfl kc_1 ?_
        refine e_next (pc' := 32) rfl rfl ?_
        exact e_zret rfl (Or.inr nI_one) h
theorem w63 {d : Nat} {x1 : Int32} {g : qG} {I : qI} {J : qJ} {Q : qQ} (hs : qSh g)  (h : qC d 67 [.ref 11] g I J (fun v _ I1 _ => ∃ r1, v = some (.int r1) ∧ ((r1 = (nI 40) → ((x1 < (nI 8) → Q (some (.int (nI 1))) g (qw I1 11 2 ((I1 11 2) + (nI 1))) J) ∧ (¬ x1 < (nI 8) → Q (some (.int (nI 0))) g I1 J))) ∧ (¬ r1 = (nI 40) → Q (some (.int (nI 0))) g I1 J)))) : qC (d + 1) 63 [.ref 11, .int x1] g I J Q := by
  show qev (d + 1) 63 (0, [.ref 11, .int x1], [], g, I, J) Q
  refine e_next (pc' := 1) rfl rfl ?_
  refine e_ciI (pc' := 4) rfl (e_sV (as := []) (fun _ => rfl) (Or.inl rfl) rfl (hs.o rfl) rfl rfl (Nat.le_of_ble_eq_true rfl) (Nat.le_of_ble_eq_true rfl) rfl) rfl rfl ?_
  refine qev.mono h (fun v _ I1 _ h => ?_)
  obtain ⟨r1, rfl, h⟩ := h
  refine ⟨r1, rfl, ?_⟩
  refine e_bipush (pc' := 6) rfl rfl kb_40 ?_
  refine e_icmp (¬ r1 = (nI 40)) (pc' := 9) rfl rfl e_d (fun hc => ?_) (fun hc => ?_)
  · replace h := h.2 hc
    refine e_iconst (pc' := 16) rfl rfl kc_0 ?_
    exact e_zret rfl (Or.inl nI_0) h
  · replace h := h.1 (Decidable.not_not.mp hc)
    refine e_next (pc' := 10) rfl rfl ?_
    refine e_bipush (pc' := 12) rfl rfl kb_8 ?_
    refine e_icmp (x1 < (nI 8)) (pc' := 15) rfl rfl e_d (fun hc => ?_) (fun hc => ?_)
    · replace h := h.1 hc
      refine e_next (pc' := 18) rfl rfl ?_
      refine e_next (pc' := 19) rfl rfl ?_
      refine e_getI (pc' := 22) rfl (Or.inl rfl) rfl (hs.o rfl) ?_
      refine e_iconst (pc' := 23) rfl rfl kc_1 ?_
      refine e_next (pc' := 24) rfl rfl ?_
      refine e_putI (pc' := 27) rfl rfl (hs.o rfl) ?_
      refine e_iconst (pc' := 28) rfl rfl kc_1 ?_
      exact e_zret rfl (Or.inr nI_one) h
    · replace h := h.2 hc
      refine e_iconst (pc' := 16) rfl rfl kc_0 ?_
      exact e_zret rfl (Or.inl nI_0) h
theorem w64 {d : Nat} {x1 : Int32} {g : qG} {I : qI} {J : qJ} {Q : qQ} (hs : qSh g)  (h : qC d 67 [.ref 11] g I J (fun v _ I1 _ => ∃ r1, v = some (.int r1) ∧ ((r1 = x1 → Q (some (.int (nI 1))) g (qw I1 11 2 ((I1 11 2) + (nI 1))) J) ∧ (¬ r1 = x1 → Q (some (.int (nI 0))) g I1 J)))) : qC (d + 1) 64 [.ref 11, .int x1] g I J Q := by
  show qev (d + 1) 64 (0, [.ref 11, .int x1], [], g, I, J) Q
  refine e_next (pc' := 1) rfl rfl ?_
  refine e_ciI (pc' := 4) rfl (e_sV (as := []) (fun _ => rfl) (Or.inl rfl) rfl (hs.o rfl) rfl rfl (Nat.le_of_ble_eq_true rfl) (Nat.le_of_ble_eq_true rfl) rfl) rfl rfl ?_
  refine qev.mono h (fun v _ I1 _ h => ?_)
  obtain ⟨r1, rfl, h⟩ := h
  refine ⟨r1, rfl, ?_⟩
  refine e_next (pc' := 5) rfl rfl ?_
  refine e_icmp (r1 = x1) (pc' := 8) rfl rfl e_d (fun hc => ?_) (fun hc => ?_)
  · replace h := h.1 hc
    refine e_next (pc' := 11) rfl rfl ?_
    refine e_next (pc' := 12) rfl rfl ?_
    refine e_getI (pc' := 15) rfl (Or.inl rfl) rfl (hs.o rfl) ?_
    refine e_iconst (pc' := 16) rfl rfl kc_1 ?_
    refine e_next (pc' := 17) rfl rfl ?_
    refine e_putI (pc' := 20) rfl rfl (hs.o rfl) ?_
    refine e_iconst (pc' := 21) rfl rfl kc_1 ?_
    exact e_zret rfl (Or.inr nI_one) h
  · replace h := h.2 hc
    refine e_iconst (pc' := 9) rfl rfl kc_0 ?_
    exact e_zret rfl (Or.inl nI_0) h
theorem w65 {d : Nat} {x1 : Int32} {x2 : Int32} {g : qG} {I : qI} {J : qJ} {Q : qQ} (hs : qSh g)  (h : qC d 67 [.ref 11] g I J (fun v _ I1 _ => ∃ r1, v = some (.int r1) ∧ qev (d + 1) 65 (12, [.ref 11, .int x1, .int x2, .int (nI 0)], [], g, (qw I1 11 4 (nI 0)), J) Q)) : qC (d + 1) 65 [.ref 11, .int x1, .int x2] g I J Q := by
  show qev (d + 1) 65 (0, [.ref 11, .int x1, .int x2, qpad], [], g, I, J) Q
  refine e_next (pc' := 1) rfl rfl ?_
  refine e_ciI (pc' := 4) rfl (e_sV (as := []) (fun _ => rfl) (Or.inl rfl) rfl (hs.o rfl) rfl rfl (Nat.le_of_ble_eq_true rfl) (Nat.le_of_ble_eq_true rfl) rfl) rfl rfl ?_
  refine qev.mono h (fun v _ I1 _ h => ?_)
  obtain ⟨r1, rfl, h⟩ := h
  refine ⟨r1, rfl, ?_⟩
  refine e_next (pc' := 5) rfl rfl ?_
  refine e_next (pc' := 6) rfl rfl ?_
  refine e_iconst (pc' := 7) rfl rfl kc_0 ?_
  refine e_putI (pc' := 10) rfl rfl (hs.o rfl) ?_
  refine e_iconst (pc' := 11) rfl rfl kc_0 ?_
  refine e_next (pc' := 12) (ls' := [_, _, _, _]) rfl rfl ?_
  exact h
theorem w65_12 {d : Nat} {i1 : Int32} {i2 : Int32} {i3 : Int32} {g : qG} {I : qI} {J : qJ} {Q : qQ} (hs : qSh g)  (h : (((nI 3) ≤ i3 → qev (d + 1) 65 (71, [.ref 11, .int i1, .int i2, .int i3], [], g, I, J) Q) ∧ (¬ (nI 3) ≤ i3 → qC d 66 [.ref 11, .int (I 11 2)] g I J (fun v _ _ _ => ∃ r1, v = some (.int r1) ∧ ((r1 = 0 → qev (d + 1) 65 (71, [.ref 11, .int i1, .int i2, .int i3], [], g, I, J) Q) ∧ (¬ r1 = 0 → ∃ k1, (I 11 2) = nI k1 ∧ k1 < 320 ∧ qev (d + 1) 65 (12, [.ref 11, .int i1, .int i2, .int (i3 + (nI 1))], [], g, (qw (qw I 11 4 ((((I 11 4) * (nI 10)) + (I 6 k1)) - (nI 48))) 11 2 (((qw I 11 4 ((((I 11 4) * (nI 10)) + (I 6 k1)) - (nI 48))) 11 2) + (nI 1))), J) Q)))))) : qev (d + 1) 65 (12, [.ref 11, .int i1, .int i2, .int i3], [], g, I, J) Q := by
  refine e_next (pc' := 13) rfl rfl ?_
  refine e_iconst (pc' := 14) rfl rfl kc_3 ?_
  refine e_icmp ((nI 3) ≤ i3) (pc' := 17) rfl rfl e_d (fun hc => ?_) (fun hc => ?_)
  · replace h := h.1 hc
    exact h
  · replace h := h.2 hc
    refine e_next (pc' := 18) rfl rfl ?_
    refine e_next (pc' := 19) rfl rfl ?_
    refine e_getI (pc' := 22) rfl (Or.inl rfl) rfl (hs.o rfl) ?_
    refine e_cpI (pc' := 25) rfl (e_sV (as := [_]) (fun _ => rfl) (Or.inl rfl) rfl (hs.o rfl) rfl rfl (Nat.le_of_ble_eq_true rfl) (Nat.le_of_ble_eq_true rfl) rfl) rfl rfl rfl ?_
    refine qev.mono h (fun v _ _ _ h => ?_)
    obtain ⟨r1, rfl, h⟩ := h
    refine ⟨r1, rfl, ?_⟩
    refine e_if (r1 = 0) (pc' := 28) rfl rfl e_d (fun hc => ?_) (fun hc => ?_)
    · replace h := h.1 hc
      exact h
    · replace h := h.2 hc
      refine e_next (pc' := 29) rfl rfl ?_
      refine e_next (pc' := 30) rfl rfl ?_
      refine e_getI (pc' := 33) rfl (Or.inl rfl) rfl (hs.o rfl) ?_
      refine e_bipush (pc' := 35) rfl rfl kb_10 ?_
      refine e_next (pc' := 36) rfl rfl ?_
      refine e_next (pc' := 37) rfl rfl ?_
      refine e_getR (pc' := 40) rfl rfl (hs.o rfl) (hs.a rfl) ?_
      refine e_getR (pc' := 43) rfl rfl (hs.o rfl) (hs.a rfl) ?_
      refine e_next (pc' := 44) rfl rfl ?_
      refine e_getI (pc' := 47) rfl (Or.inl rfl) rfl (hs.o rfl) ?_
      obtain ⟨k1, hi_k1, hj_k1, h⟩ := h
      refine e_iald k1 (pc' := 48) rfl rfl (hs.k rfl) hi_k1 hj_k1 (by decide) ?_
      refine e_next (pc' := 49) rfl rfl ?_
      refine e_bipush (pc' := 51) rfl rfl kb_48 ?_
      refine e_next (pc' := 52) rfl rfl ?_
      refine e_putI (pc' := 55) rfl rfl (hs.o rfl) ?_
      refine e_next (pc' := 56) rfl rfl ?_
      refine e_next (pc' := 57) rfl rfl ?_
      refine e_getI (pc' := 60) rfl (Or.inl rfl) rfl (hs.o rfl) ?_
      refine e_iconst (pc' := 61) rfl rfl kc_1 ?_
      refine e_next (pc' := 62) rfl rfl ?_
      refine e_putI (pc' := 65) rfl rfl (hs.o rfl) ?_
      refine e_iinc (pc' := 68) (ls' := [_, _, _, _]) (v := (nI 1)) rfl rfl kc_1 rfl rfl ?_
      refine e_next (pc' := 12) rfl rfl ?_
      exact h
