theorem w210_106 {d : Nat} {x1 : Nat} {n_x1 : Nat} {i2 : Int32} {i3 : Int32} {i4 : Int32} {i5 : Int32} {i6 : Int32} {i7 : Int32} {g : qG} {I : qI} {J : qJ} {Q : qQ} (hs : qSh g) (hk_x1 : g.1 x1 = some (100, n_x1)) (hn_x1 : n_x1 < 2 ^ 31) (h : (((nI 2) < i5 → ((i7 = 0 → qC d 208 [.ref 105, .int ((I 105 25) - (nI 1)), .int i5, .int i6] g I J (fun v _ I1 _ => ∃ r1, v = some (.int r1) ∧ qev (d + 1) 210 (10, [.ref 105, .ref x1, .int i2, .int r1, .int (i4 + (nI 1)), .int i5, .int i6, .int i7], [], g, I1, J) Q)) ∧ (¬ i7 = 0 → qC d 207 [.ref 105, .int ((I 105 25) - (nI 1)), .int i5] g I J (fun v _ I2 _ => ∃ r2, v = some (.int r2) ∧ qev (d + 1) 210 (10, [.ref 105, .ref x1, .int i2, .int r2, .int (i4 + (nI 1)), .int i5, .int i6, .int i7], [], g, I2, J) Q)))) ∧ (¬ (nI 2) < i5 → qC d 209 [.ref 105, .ref x1, .int i5, .int i6] g I J (fun v _ I3 _ => ∃ r3, v = some (.int r3) ∧ qev (d + 1) 210 (10, [.ref 105, .ref x1, .int i2, .int r3, .int (i4 + (nI 1)), .int i5, .int i6, .int i7], [], g, I3, J) Q)))) : qev (d + 1) 210 (106, [.ref 105, .ref x1, .int i2, .int i3, .int i4, .int i5, .int i6, .int i7], [], g, I, J) Q := by
  refine e_next (pc' := 108) rfl rfl ?_
  refine e_iconst (pc' := 109) rfl rfl kc_2 ?_
  refine e_icmp ((nI 2) < i5) (pc' := 112) rfl rfl e_d (fun hc => ?_) (fun hc => ?_)
  · replace h := h.1 hc
    refine e_next (pc' := 126) rfl rfl ?_
    refine e_if (i7 = 0) (pc' := 129) rfl rfl e_d (fun hc => ?_) (fun hc => ?_)
    · replace h := h.1 hc
      refine e_next (pc' := 145) rfl rfl ?_
      refine e_next (pc' := 146) rfl rfl ?_
      refine e_getI (pc' := 149) rfl (Or.inl rfl) rfl (hs.o rfl) ?_
      refine e_iconst (pc' := 150) rfl rfl kc_1 ?_
      refine e_next (pc' := 151) rfl rfl ?_
      refine e_next (pc' := 153) rfl rfl ?_
      refine e_next (pc' := 155) rfl rfl ?_
      refine e_ciI (pc' := 158) rfl (e_sV (as := [_, _, _]) (fun _ => rfl) (Or.inl rfl) rfl (hs.o rfl) rfl rfl (Nat.le_of_ble_eq_true rfl) (Nat.le_of_ble_eq_true rfl) rfl) rfl rfl ?_
      refine qev.mono h (fun v _ I1 _ h => ?_)
      obtain ⟨r1, rfl, h⟩ := h
      refine ⟨r1, rfl, ?_⟩
      refine e_next (pc' := 159) (ls' := [_, _, _, _, _, _, _, _]) rfl rfl ?_
      refine e_iinc (pc' := 162) (ls' := [_, _, _, _, _, _, _, _]) (v := (nI 1)) rfl rfl kc_1 rfl rfl ?_
      refine e_next (pc' := 10) rfl rfl ?_
      exact h
    · replace h := h.2 hc
      refine e_next (pc' := 130) rfl rfl ?_
      refine e_next (pc' := 131) rfl rfl ?_
      refine e_getI (pc' := 134) rfl (Or.inl rfl) rfl (hs.o rfl) ?_
      refine e_iconst (pc' := 135) rfl rfl kc_1 ?_
      refine e_next (pc' := 136) rfl rfl ?_
      refine e_next (pc' := 138) rfl rfl ?_
      refine e_ciI (pc' := 141) rfl (e_sV (as := [_, _]) (fun _ => rfl) (Or.inl rfl) rfl (hs.o rfl) rfl rfl (Nat.le_of_ble_eq_true rfl) (Nat.le_of_ble_eq_true rfl) rfl) rfl rfl ?_
      refine qev.mono h (fun v _ I2 _ h => ?_)
      obtain ⟨r2, rfl, h⟩ := h
      refine ⟨r2, rfl, ?_⟩
      refine e_next (pc' := 158) rfl rfl ?_
      refine e_next (pc' := 159) (ls' := [_, _, _, _, _, _, _, _]) rfl rfl ?_
      refine e_iinc (pc' := 162) (ls' := [_, _, _, _, _, _, _, _]) (v := (nI 1)) rfl rfl kc_1 rfl rfl ?_
      refine e_next (pc' := 10) rfl rfl ?_
      exact h
  · replace h := h.2 hc
    refine e_next (pc' := 113) rfl rfl ?_
    refine e_next (pc' := 114) rfl rfl ?_
    refine e_next (pc' := 116) rfl rfl ?_
    refine e_next (pc' := 118) rfl rfl ?_
    refine e_ciI (pc' := 121) rfl (e_sV (as := [_, _, _]) (fun _ => rfl) (Or.inl rfl) rfl (hs.o rfl) rfl rfl (Nat.le_of_ble_eq_true rfl) (Nat.le_of_ble_eq_true rfl) rfl) rfl rfl ?_
    refine qev.mono h (fun v _ I3 _ h => ?_)
    obtain ⟨r3, rfl, h⟩ := h
    refine ⟨r3, rfl, ?_⟩
    refine e_next (pc' := 158) rfl rfl ?_
    refine e_next (pc' := 159) (ls' := [_, _, _, _, _, _, _, _]) rfl rfl ?_
    refine e_iinc (pc' := 162) (ls' := [_, _, _, _, _, _, _, _]) (v := (nI 1)) rfl rfl kc_1 rfl rfl ?_
    refine e_next (pc' := 10) rfl rfl ?_
    exact h
theorem w211 {d : Nat}  {g : qG} {I : qI} {J : qJ} {Q : qQ} (hs : qSh g)  (h : (((I 105 22) = (nI 40) → qC d 177 [.ref 111, .int (nI 0), .ref 114, .int ((nI 381) * (qrem ((((qw I 105 21 (qrem ((I 105 21) + (nI 1)) (nI 40))) 105 21) + ((qw I 105 21 (qrem ((I 105 21) + (nI 1)) (nI 40))) 105 22)) - (nI 1)) (nI 40)))] g (qw I 105 21 (qrem ((I 105 21) + (nI 1)) (nI 40))) J (fun v _ I2 _ => v = none ∧ Q none g I2 J)) ∧ (¬ (I 105 22) = (nI 40) → qC d 177 [.ref 111, .int (nI 0), .ref 114, .int ((nI 381) * (qrem ((((qw I 105 22 ((I 105 22) + (nI 1))) 105 21) + ((qw I 105 22 ((I 105 22) + (nI 1))) 105 22)) - (nI 1)) (nI 40)))] g (qw I 105 22 ((I 105 22) + (nI 1))) J (fun v _ I1 _ => v = none ∧ Q none g I1 J)))) : qC (d + 1) 211 [.ref 105] g I J Q := by
  show qev (d + 1) 211 (0, [.ref 105], [], g, I, J) Q
  refine e_next (pc' := 1) rfl rfl ?_
  refine e_getI (pc' := 4) rfl (Or.inl rfl) rfl (hs.o rfl) ?_
  refine e_bipush (pc' := 6) rfl rfl kb_40 ?_
  refine e_icmp (¬ (I 105 22) = (nI 40)) (pc' := 9) rfl rfl e_d (fun hc => ?_) (fun hc => ?_)
  · replace h := h.2 hc
    refine e_next (pc' := 26) rfl rfl ?_
    refine e_next (pc' := 27) rfl rfl ?_
    refine e_getI (pc' := 30) rfl (Or.inl rfl) rfl (hs.o rfl) ?_
    refine e_iconst (pc' := 31) rfl rfl kc_1 ?_
    refine e_next (pc' := 32) rfl rfl ?_
    refine e_putI (pc' := 35) rfl rfl (hs.o rfl) ?_
    refine e_next (pc' := 36) rfl rfl ?_
    refine e_getR (pc' := 39) rfl rfl (hs.o rfl) (hs.a rfl) ?_
    refine e_iconst (pc' := 40) rfl rfl kc_0 ?_
    refine e_next (pc' := 41) rfl rfl ?_
    refine e_getR (pc' := 44) rfl rfl (hs.o rfl) (hs.a rfl) ?_
    refine e_sipush (pc' := 47) rfl rfl ks_381 ?_
    refine e_next (pc' := 48) rfl rfl ?_
    refine e_getI (pc' := 51) rfl (Or.inl rfl) rfl (hs.o rfl) ?_
    refine e_next (pc' := 52) rfl rfl ?_
    refine e_getI (pc' := 55) rfl (Or.inl rfl) rfl (hs.o rfl) ?_
    refine e_next (pc' := 56) rfl rfl ?_
    refine e_iconst (pc' := 57) rfl rfl kc_1 ?_
    refine e_next (pc' := 58) rfl rfl ?_
    refine e_bipush (pc' := 60) rfl rfl kb_40 ?_
    refine e_irem (pc' := 61) rfl rfl (by decide) ?_
    refine e_next (pc' := 62) rfl rfl ?_
    refine e_ciV (pc' := 65) rfl (e_sS (as := [_, _, _, _]) (fun _ => rfl) rfl (Nat.le_of_ble_eq_true rfl) rfl rfl (Nat.le_of_ble_eq_true rfl) (Nat.le_of_ble_eq_true rfl) rfl) rfl rfl ?_
    refine qev.mono h (fun v _ I1 _ h => ?_)
    obtain ⟨rfl, h⟩ := h
    refine ⟨rfl, ?_⟩
    exact qev_ret rfl rfl h
  · replace h := h.1 (Decidable.not_not.mp hc)
    refine e_next (pc' := 10) rfl rfl ?_
    refine e_next (pc' := 11) rfl rfl ?_
    refine e_getI (pc' := 14) rfl (Or.inl rfl) rfl (hs.o rfl) ?_
    refine e_iconst (pc' := 15) rfl rfl kc_1 ?_
    refine e_next (pc' := 16) rfl rfl ?_
    refine e_bipush (pc' := 18) rfl rfl kb_40 ?_
    refine e_irem (pc' := 19) rfl rfl (by decide) ?_
    refine e_putI (pc' := 22) rfl rfl (hs.o rfl) ?_
    refine e_next (pc' := 35) rfl rfl ?_
    refine e_next (pc' := 36) rfl rfl ?_
    refine e_getR (pc' := 39) rfl rfl (hs.o rfl) (hs.a rfl) ?_
    refine e_iconst (pc' := 40) rfl rfl kc_0 ?_
    refine e_next (pc' := 41) rfl rfl ?_
    refine e_getR (pc' := 44) rfl rfl (hs.o rfl) (hs.a rfl) ?_
    refine e_sipush (pc' := 47) rfl rfl ks_381 ?_
    refine e_next (pc' := 48) rfl rfl ?_
    refine e_getI (pc' := 51) rfl (Or.inl rfl) rfl (hs.o rfl) ?_
    refine e_next (pc' := 52) rfl rfl ?_
    refine e_getI (pc' := 55) rfl (Or.inl rfl) rfl (hs.o rfl) ?_
    refine e_next (pc' := 56) rfl rfl ?_
    refine e_iconst (pc' := 57) rfl rfl kc_1 ?_
    refine e_next (pc' := 58) rfl rfl ?_
    refine e_bipush (pc' := 60) rfl rfl kb_40 ?_
    refine e_irem (pc' := 61) rfl rfl (by decide) ?_
    refine e_next (pc' := 62) rfl rfl ?_
    refine e_ciV (pc' := 65) rfl (e_sS (as := [_, _, _, _]) (fun _ => rfl) rfl (Nat.le_of_ble_eq_true rfl) rfl rfl (Nat.le_of_ble_eq_true rfl) (Nat.le_of_ble_eq_true rfl) rfl) rfl rfl ?_
    refine qev.mono h (fun v _ I2 _ h => ?_)
    obtain ⟨rfl, h⟩ := h
    refine ⟨rfl, ?_⟩
    exact qev_ret rfl rfl h
theorem w212 {d : Nat} {x1 : Nat} {n_x1 : Nat} {x2 : Int32} {x3 : Int32} {g : qG} {I : qI} {J : qJ} {Q : qQ} (hk_x1 : g.1 x1 = some (100, n_x1)) (hn_x1 : n_x1 < 2 ^ 31) (h : ∃ k1, (nI 200) = nI k1 ∧ k1 < n_x1 ∧ (((I x1 k1) = (nI 60) → qev d 212 (13, [.ref 105, .ref x1, .int x2, .int x3, .int (nI 1)], [], g, I, J) Q) ∧ (¬ (I x1 k1) = (nI 60) → qev d 212 (54, [.ref 105, .ref x1, .int x2, .int x3, qpad], [], g, I, J) Q))) : qC d 212 [.ref 105, .ref x1, .int x2, .int x3] g I J Q := by
  show qev d 212 (0, [.ref 105, .ref x1, .int x2, .int x3, qpad], [], g, I, J) Q
  refine e_next (pc' := 1) rfl rfl ?_
  refine e_sipush (pc' := 4) rfl rfl ks_200 ?_
  obtain ⟨k1, hi_k1, hj_k1, h⟩ := h
  refine e_iald k1 (pc' := 5) rfl rfl hk_x1 hi_k1 hj_k1 hn_x1 ?_
  refine e_bipush (pc' := 7) rfl rfl kb_60 ?_
  refine e_icmp (¬ (I x1 k1) = (nI 60)) (pc' := 10) rfl rfl e_d (fun hc => ?_) (fun hc => ?_)
  · replace h := h.2 hc
    exact h
  · replace h := h.1 (Decidable.not_not.mp hc)
    refine e_iconst (pc' := 11) rfl rfl kc_1 ?_
    refine e_next (pc' := 13) (ls' := [_, _, _, _, _]) rfl rfl ?_
    exact h
theorem w212_13 {d : Nat} {x1 : Nat} {n_x1 : Nat} {i2 : Int32} {i3 : Int32} {i4 : Int32} {g : qG} {I : qI} {J : qJ} {Q : qQ} (hk_x1 : g.1 x1 = some (100, n_x1)) (hn_x1 : n_x1 < 2 ^ 31) (h : (((nI 177) < i4 → ∃ k1, (nI 200) = nI k1 ∧ k1 < n_x1 ∧ ∃ k2, (nI 200) = nI k2 ∧ k2 < n_x1 ∧ qev d 212 (54, [.ref 105, .ref x1, .int i2, .int i3, .int i4], [], g, (qw I x1 k2 ((I x1 k1) - (nI 1))), J) Q) ∧ (¬ (nI 177) < i4 → ∃ k3, (((nI 200) + i4) + (nI 3)) = nI k3 ∧ k3 < n_x1 ∧ ∃ k4, ((nI 200) + i4) = nI k4 ∧ k4 < n_x1 ∧ qev d 212 (13, [.ref 105, .ref x1, .int i2, .int i3, .int (i4 + (nI 1))], [], g, (qw I x1 k4 (I x1 k3)), J) Q))) : qev d 212 (13, [.ref 105, .ref x1, .int i2, .int i3, .int i4], [], g, I, J) Q := by
  refine e_next (pc' := 15) rfl rfl ?_
  refine e_sipush (pc' := 18) rfl rfl ks_177 ?_
  refine e_icmp ((nI 177) < i4) (pc' := 21) rfl rfl e_d (fun hc => ?_) (fun hc => ?_)
  · replace h := h.1 hc
    refine e_next (pc' := 46) rfl rfl ?_
    refine e_sipush (pc' := 49) rfl rfl ks_200 ?_
    refine e_next (pc' := 50) rfl rfl ?_
    obtain ⟨k1, hi_k1, hj_k1, h⟩ := h
    refine e_iald k1 (pc' := 51) rfl rfl hk_x1 hi_k1 hj_k1 hn_x1 ?_
    refine e_iconst (pc' := 52) rfl rfl kc_1 ?_
    refine e_next (pc' := 53) rfl rfl ?_
    obtain ⟨k2, hi_k2, hj_k2, h⟩ := h
    refine e_iast k2 (pc' := 54) rfl rfl hk_x1 hi_k2 hj_k2 hn_x1 ?_
    exact h
  · replace h := h.2 hc
    refine e_next (pc' := 22) rfl rfl ?_
    refine e_sipush (pc' := 25) rfl rfl ks_200 ?_
    refine e_next (pc' := 27) rfl rfl ?_
    refine e_next (pc' := 28) rfl rfl ?_
    refine e_next (pc' := 29) rfl rfl ?_
    refine e_sipush (pc' := 32) rfl rfl ks_200 ?_
    refine e_next (pc' := 34) rfl rfl ?_
    refine e_next (pc' := 35) rfl rfl ?_
    refine e_iconst (pc' := 36) rfl rfl kc_3 ?_
    refine e_next (pc' := 37) rfl rfl ?_
    obtain ⟨k3, hi_k3, hj_k3, h⟩ := h
    refine e_iald k3 (pc' := 38) rfl rfl hk_x1 hi_k3 hj_k3 hn_x1 ?_
    obtain ⟨k4, hi_k4, hj_k4, h⟩ := h
    refine e_iast k4 (pc' := 39) rfl rfl hk_x1 hi_k4 hj_k4 hn_x1 ?_
    refine e_iinc (pc' := 42) (ls' := [_, _, _, _, _]) (v := (nI 1)) rfl rfl kc_1 rfl rfl ?_
    refine e_next (pc' := 13) rfl rfl ?_
    exact h
theorem w212_54 {d : Nat} {x1 : Nat} {n_x1 : Nat} {i2 : Int32} {i3 : Int32} {w4 : Value} {g : qG} {I : qI} {J : qJ} {Q : qQ} (hk_x1 : g.1 x1 = some (100, n_x1)) (hn_x1 : n_x1 < 2 ^ 31) (h : ∃ k1, (nI 200) = nI k1 ∧ k1 < n_x1 ∧ ∃ k2, ((nI 201) + ((nI 3) * (I x1 k1))) = nI k2 ∧ k2 < n_x1 ∧ ∃ k3, (((nI 201) + ((nI 3) * (I x1 k1))) + (nI 1)) = nI k3 ∧ k3 < n_x1 ∧ ∃ k4, ((nI 25) * i3) = nI k4 ∧ k4 < n_x1 ∧ ∃ k5, (((nI 201) + ((nI 3) * (I x1 k1))) + (nI 2)) = nI k5 ∧ k5 < n_x1 ∧ ∃ k6, (nI 200) = nI k6 ∧ k6 < n_x1 ∧ ∃ k7, (nI 200) = nI k7 ∧ k7 < n_x1 ∧ Q none g (qw (qw (qw (qw I x1 k2 i2) x1 k3 i3) x1 k5 ((qw (qw I x1 k2 i2) x1 k3 i3) x1 k4)) x1 k7 (((qw (qw (qw I x1 k2 i2) x1 k3 i3) x1 k5 ((qw (qw I x1 k2 i2) x1 k3 i3) x1 k4)) x1 k6) + (nI 1))) J) : qev d 212 (54, [.ref 105, .ref x1, .int i2, .int i3, w4], [], g, I, J) Q := by
  refine e_sipush (pc' := 57) rfl rfl ks_201 ?_
  refine e_iconst (pc' := 58) rfl rfl kc_3 ?_
  refine e_next (pc' := 59) rfl rfl ?_
  refine e_sipush (pc' := 62) rfl rfl ks_200 ?_
  obtain ⟨k1, hi_k1, hj_k1, h⟩ := h
  refine e_iald k1 (pc' := 63) rfl rfl hk_x1 hi_k1 hj_k1 hn_x1 ?_
  refine e_next (pc' := 64) rfl rfl ?_
  refine e_next (pc' := 65) rfl rfl ?_
  refine e_next (pc' := 67) (ls' := [_, _, _, _, _]) rfl rfl ?_
  refine e_next (pc' := 68) rfl rfl ?_
  refine e_next (pc' := 70) rfl rfl ?_
  refine e_next (pc' := 71) rfl rfl ?_
  obtain ⟨k2, hi_k2, hj_k2, h⟩ := h
  refine e_iast k2 (pc' := 72) rfl rfl hk_x1 hi_k2 hj_k2 hn_x1 ?_
  refine e_next (pc' := 73) rfl rfl ?_
  refine e_next (pc' := 75) rfl rfl ?_
  refine e_iconst (pc' := 76) rfl rfl kc_1 ?_
  refine e_next (pc' := 77) rfl rfl ?_
  refine e_next (pc' := 78) rfl rfl ?_
  obtain ⟨k3, hi_k3, hj_k3, h⟩ := h
  refine e_iast k3 (pc' := 79) rfl rfl hk_x1 hi_k3 hj_k3 hn_x1 ?_
  refine e_next (pc' := 80) rfl rfl ?_
  refine e_next (pc' := 82) rfl rfl ?_
  refine e_iconst (pc' := 83) rfl rfl kc_2 ?_
  refine e_next (pc' := 84) rfl rfl ?_
  refine e_next (pc' := 85) rfl rfl ?_
  refine e_bipush (pc' := 87) rfl rfl kb_25 ?_
  refine e_next (pc' := 88) rfl rfl ?_
  refine e_next (pc' := 89) rfl rfl ?_
  obtain ⟨k4, hi_k4, hj_k4, h⟩ := h
  refine e_iald k4 (pc' := 90) rfl rfl hk_x1 hi_k4 hj_k4 hn_x1 ?_
  obtain ⟨k5, hi_k5, hj_k5, h⟩ := h
  refine e_iast k5 (pc' := 91) rfl rfl hk_x1 hi_k5 hj_k5 hn_x1 ?_
  refine e_next (pc' := 92) rfl rfl ?_
  refine e_sipush (pc' := 95) rfl rfl ks_200 ?_
  refine e_next (pc' := 96) rfl rfl ?_
  obtain ⟨k6, hi_k6, hj_k6, h⟩ := h
  refine e_iald k6 (pc' := 97) rfl rfl hk_x1 hi_k6 hj_k6 hn_x1 ?_
  refine e_iconst (pc' := 98) rfl rfl kc_1 ?_
  refine e_next (pc' := 99) rfl rfl ?_
  obtain ⟨k7, hi_k7, hj_k7, h⟩ := h
  refine e_iast k7 (pc' := 100) rfl rfl hk_x1 hi_k7 hj_k7 hn_x1 ?_
  exact qev_ret rfl rfl h
theorem w213 {d : Nat} {x1 : Int32} {g : qG} {I : qI} {J : qJ} {Q : qQ} (hs : qSh g)  (h : ∃ k1, x1 = nI k1 ∧ k1 < 6 ∧ ∃ k2, x1 = nI k2 ∧ k2 < 6 ∧ Q (some (.int (-1))) g (qw I 116 k2 ((I 116 k1) + (nI 1))) J) : qC d 213 [.ref 105, .int x1] g I J Q := by
  show qev d 213 (0, [.ref 105, .int x1], [], g, I, J) Q
  refine e_next (pc' := 1) rfl rfl ?_
  refine e_getR (pc' := 4) rfl rfl (hs.o rfl) (hs.a rfl) ?_
  refine e_next (pc' := 5) rfl rfl ?_
  refine e_next (pc' := 6) rfl rfl ?_
  obtain ⟨k1, hi_k1, hj_k1, h⟩ := h
  refine e_iald k1 (pc' := 7) rfl rfl (hs.k rfl) hi_k1 hj_k1 (by decide) ?_
  refine e_iconst (pc' := 8) rfl rfl kc_1 ?_
  refine e_next (pc' := 9) rfl rfl ?_
  obtain ⟨k2, hi_k2, hj_k2, h⟩ := h
  refine e_iast k2 (pc' := 10) rfl rfl (hs.k rfl) hi_k2 hj_k2 (by decide) ?_
  refine e_iconst (pc' := 11) rfl rfl kc_m1 ?_
  exact e_iret rfl h
theorem w214 {d : Nat} {x1 : Int32} {g : qG} {I : qI} {J : qJ} {Q : qQ} (hs : qSh g)  (h : (((I 105 7) ≤ 0 → Q (some (.int (nI 0))) g I J) ∧ (¬ (I 105 7) ≤ 0 → qC d 147 [.long (Int32.toInt64 x1), .long (lN 0), .long (lN 7)] g I J (fun v _ _ _ => ∃ r1, v = some (.int r1) ∧ ((r1 = 0 → Q (some (.int (nI 0))) g I J) ∧ (¬ r1 = 0 → Q (some (.int (nI 1))) g I J)))))) : qC (d + 1) 214 [.ref 105, .int x1] g I J Q := by
  show qev (d + 1) 214 (0, [.ref 105, .int x1], [], g, I, J) Q
  refine e_next (pc' := 1) rfl rfl ?_
  refine e_getI (pc' := 4) rfl (Or.inl rfl) rfl (hs.o rfl) ?_
  refine e_if ((I 105 7) ≤ 0) (pc' := 7) rfl rfl e_d (fun hc => ?_) (fun hc => ?_)
  · replace h := h.1 hc
    refine e_iconst (pc' := 24) rfl rfl kc_0 ?_
    exact e_zret rfl (Or.inl nI_0) h
  · replace h := h.2 hc
    refine e_next (pc' := 8) rfl rfl ?_
    refine e_next (pc' := 9) rfl rfl ?_
    refine e_lconst (pc' := 10) rfl rfl kl_0 ?_
    refine e_ldc2 (pc' := 13) rfl rfl kN_7 ?_
    refine e_cpI (pc' := 16) rfl (e_sS (as := [_, _, _]) (fun _ => rfl) rfl (Nat.le_of_ble_eq_true rfl) rfl rfl (Nat.le_of_ble_eq_true rfl) (Nat.le_of_ble_eq_true rfl) rfl) rfl rfl rfl ?_
    refine qev.mono h (fun v _ _ _ h => ?_)
    obtain ⟨r1, rfl, h⟩ := h
    refine ⟨r1, rfl, ?_⟩
    refine e_if (r1 = 0) (pc' := 19) rfl rfl e_d (fun hc => ?_) (fun hc => ?_)
    · replace h := h.1 hc
      refine e_iconst (pc' := 24) rfl rfl kc_0 ?_
      exact e_zret rfl (Or.inl nI_0) h
    · replace h := h.2 hc
      refine e_iconst (pc' := 20) rfl rfl kc_1 ?_
      refine e_next (pc' := 24) rfl rfl ?_
      exact e_zret rfl (Or.inr nI_one) h
theorem w215 {d : Nat} {x1 : Int32} {g : qG} {I : qI} {J : qJ} {Q : qQ} (hs : qSh g)  (h : qC d 214 [.ref 105, .int x1] g I J (fun v _ _ _ => ∃ r1, v = some (.int r1) ∧ ((r1 = 0 → Q (some (.int (nI 0))) g I J) ∧ (¬ r1 = 0 → ∃ k1, ((nI 25) * x1) = nI k1 ∧ k1 < 381 ∧ (((I 111 k1) ≤ 0 → Q (some (.int (nI 0))) g I J) ∧ (¬ (I 111 k1) ≤ 0 → Q (some (.int (nI 1))) g I J)))))) : qC (d + 1) 215 [.ref 105, .int x1] g I J Q := by
  show qev (d + 1) 215 (0, [.ref 105, .int x1], [], g, I, J) Q
  refine e_next (pc' := 1) rfl rfl ?_
  refine e_next (pc' := 2) rfl rfl ?_
  refine e_cpI (pc' := 5) rfl (e_sV (as := [_]) (fun _ => rfl) (Or.inl rfl) rfl (hs.o rfl) rfl rfl (Nat.le_of_ble_eq_true rfl) (Nat.le_of_ble_eq_true rfl) rfl) rfl rfl rfl ?_
  refine qev.mono h (fun v _ _ _ h => ?_)
  obtain ⟨r1, rfl, h⟩ := h
  refine ⟨r1, rfl, ?_⟩
  refine e_if (r1 = 0) (pc' := 8) rfl rfl e_d (fun hc => ?_) (fun hc => ?_)
  · replace h := h.1 hc
    refine e_iconst (pc' := 25) rfl rfl kc_0 ?_
    exact e_zret rfl (Or.inl nI_0) h
  · replace h := h.2 hc
    refine e_next (pc' := 9) rfl rfl ?_
    refine e_getR (pc' := 12) rfl rfl (hs.o rfl) (hs.a rfl) ?_
    refine e_bipush (pc' := 14) rfl rfl kb_25 ?_
    refine e_next (pc' := 15) rfl rfl ?_
    refine e_next (pc' := 16) rfl rfl ?_
    obtain ⟨k1, hi_k1, hj_k1, h⟩ := h
    refine e_iald k1 (pc' := 17) rfl rfl (hs.k rfl) hi_k1 hj_k1 (by decide) ?_
    refine e_if ((I 111 k1) ≤ 0) (pc' := 20) rfl rfl e_d (fun hc => ?_) (fun hc => ?_)
    · replace h := h.1 hc
      refine e_iconst (pc' := 25) rfl rfl kc_0 ?_
      exact e_zret rfl (Or.inl nI_0) h
    · replace h := h.2 hc
      refine e_iconst (pc' := 21) rfl rfl kc_1 ?_
      refine e_next (pc' := 25) rfl rfl ?_
      exact e_zret rfl (Or.inr nI_one) h
theorem w216 {d : Nat} {x1 : Nat} {n_x1 : Nat} {x2 : Int32} {g : qG} {I : qI} {J : qJ} {Q : qQ} (hs : qSh g) (hk_x1 : g.1 x1 = some (100, n_x1)) (hn_x1 : n_x1 < 2 ^ 31) (h : qC d 210 [.ref 105, .ref x1, .int x2] g I J (fun v _ I1 _ => ∃ r1, v = some (.int r1) ∧ ((r1 = (-1) → qev (d + 1) 216 (17, [.ref 105, .ref x1, .int x2, .int r1, .int (nI 0)], [], g, I1, J) Q) ∧ (¬ r1 = (-1) → Q (some (.int r1)) g I1 J)))) : qC (d + 1) 216 [.ref 105, .ref x1, .int x2] g I J Q := by
  show qev (d + 1) 216 (0, [.ref 105, .ref x1, .int x2, qpad, qpad], [], g, I, J) Q
  refine e_next (pc' := 1) rfl rfl ?_
  refine e_next (pc' := 2) rfl rfl ?_
  refine e_next (pc' := 3) rfl rfl ?_
  refine e_ciI (pc' := 6) rfl (e_sV (as := [_, _]) (fun _ => rfl) (Or.inl rfl) rfl (hs.o rfl) rfl rfl (Nat.le_of_ble_eq_true rfl) (Nat.le_of_ble_eq_true rfl) rfl) rfl rfl ?_
  refine qev.mono h (fun v _ I1 _ h => ?_)
  obtain ⟨r1, rfl, h⟩ := h
  refine ⟨r1, rfl, ?_⟩
  refine e_next (pc' := 7) (ls' := [_, _, _, _, _]) rfl rfl ?_
  refine e_next (pc' := 8) rfl rfl ?_
  refine e_iconst (pc' := 9) rfl rfl kc_m1 ?_
  refine e_icmp (r1 = (-1)) (pc' := 12) rfl rfl e_d (fun hc => ?_) (fun hc => ?_)
  · replace h := h.1 hc
    refine e_iconst (pc' := 15) rfl rfl kc_0 ?_
    refine e_next (pc' := 17) (ls' := [_, _, _, _, _]) rfl rfl ?_
    exact h
  · replace h := h.2 hc
    refine e_next (pc' := 13) rfl rfl ?_
    exact e_iret rfl h
theorem w216_17 {d : Nat} {x1 : Nat} {n_x1 : Nat} {i2 : Int32} {i3 : Int32} {i4 : Int32} {g : qG} {I : qI} {J : qJ} {Q : qQ} (hs : qSh g) (hk_x1 : g.1 x1 = some (100, n_x1)) (hn_x1 : n_x1 < 2 ^ 31) (h : (((nI 25) ≤ i4 → ∃ k1, i2 = nI k1 ∧ k1 < 41 ∧ qC d 212 [.ref 105, .ref x1, .int (nI 0), .int (I 107 k1)] g I J (fun v _ I1 _ => v = none ∧ Q (some (.int (-1))) g I1 J)) ∧ (¬ (nI 25) ≤ i4 → ∃ k2, i2 = nI k2 ∧ k2 < 41 ∧ qC d 180 [.ref 105, .int (nI 0)] g I J (fun v _ _ _ => ∃ r1, v = some (.int r1) ∧ ((r1 < i4 → ∃ k3, (((nI 25) * (I 107 k2)) + i4) = nI k3 ∧ k3 < n_x1 ∧ qev (d + 1) 216 (17, [.ref 105, .ref x1, .int i2, .int i3, .int (i4 + (nI 1))], [], g, (qw I x1 k3 (nI 0)), J) Q) ∧ (¬ r1 < i4 → ∃ k4, i4 = nI k4 ∧ k4 < 1200 ∧ ∃ k5, (((nI 25) * (I 107 k2)) + i4) = nI k5 ∧ k5 < n_x1 ∧ qev (d + 1) 216 (17, [.ref 105, .ref x1, .int i2, .int i3, .int (i4 + (nI 1))], [], g, (qw I x1 k5 (I 115 k4)), J) Q)))))) : qev (d + 1) 216 (17, [.ref 105, .ref x1, .int i2, .int i3, .int i4], [], g, I, J) Q := by
  refine e_next (pc' := 19) rfl rfl ?_
  refine e_bipush (pc' := 21) rfl rfl kb_25 ?_
  refine e_icmp ((nI 25) ≤ i4) (pc' := 24) rfl rfl e_d (fun hc => ?_) (fun hc => ?_)
  · replace h := h.1 hc
    refine e_next (pc' := 66) rfl rfl ?_
    refine e_next (pc' := 67) rfl rfl ?_
    refine e_iconst (pc' := 68) rfl rfl kc_0 ?_
    refine e_next (pc' := 69) rfl rfl ?_
    refine e_getR (pc' := 72) rfl rfl (hs.o rfl) (hs.a rfl) ?_
    refine e_next (pc' := 73) rfl rfl ?_
    obtain ⟨k1, hi_k1, hj_k1, h⟩ := h
    refine e_iald k1 (pc' := 74) rfl rfl (hs.k rfl) hi_k1 hj_k1 (by decide) ?_
    refine e_ciV (pc' := 77) rfl (e_sV (as := [_, _, _]) (fun _ => rfl) (Or.inl rfl) rfl (hs.o rfl) rfl rfl (Nat.le_of_ble_eq_true rfl) (Nat.le_of_ble_eq_true rfl) rfl) rfl rfl ?_
    refine qev.mono h (fun v _ I1 _ h => ?_)
    obtain ⟨rfl, h⟩ := h
    refine ⟨rfl, ?_⟩
    refine e_iconst (pc' := 78) rfl rfl kc_m1 ?_
    exact e_iret rfl h
  · replace h := h.2 hc
    refine e_next (pc' := 25) rfl rfl ?_
    refine e_bipush (pc' := 27) rfl rfl kb_25 ?_
    refine e_next (pc' := 28) rfl rfl ?_
    refine e_getR (pc' := 31) rfl rfl (hs.o rfl) (hs.a rfl) ?_
    refine e_next (pc' := 32) rfl rfl ?_
    obtain ⟨k2, hi_k2, hj_k2, h⟩ := h
    refine e_iald k2 (pc' := 33) rfl rfl (hs.k rfl) hi_k2 hj_k2 (by decide) ?_
    refine e_next (pc' := 34) rfl rfl ?_
    refine e_next (pc' := 36) rfl rfl ?_
    refine e_next (pc' := 37) rfl rfl ?_
    refine e_next (pc' := 39) rfl rfl ?_
    refine e_next (pc' := 40) rfl rfl ?_
    refine e_iconst (pc' := 41) rfl rfl kc_0 ?_
    refine e_cpI (pc' := 44) rfl (e_sV (as := [_]) (fun _ => rfl) (Or.inl rfl) rfl (hs.o rfl) rfl rfl (Nat.le_of_ble_eq_true rfl) (Nat.le_of_ble_eq_true rfl) rfl) rfl rfl rfl ?_
    refine qev.mono h (fun v _ _ _ h => ?_)
    obtain ⟨r1, rfl, h⟩ := h
    refine ⟨r1, rfl, ?_⟩
    refine e_icmp (r1 < i4) (pc' := 47) rfl rfl e_d (fun hc => ?_) (fun hc => ?_)
    · replace h := h.1 hc
      refine e_iconst (pc' := 58) rfl rfl kc_0 ?_
      obtain ⟨k3, hi_k3, hj_k3, h⟩ := h
      refine e_iast k3 (pc' := 59) rfl rfl hk_x1 hi_k3 hj_k3 hn_x1 ?_
      refine e_iinc (pc' := 62) (ls' := [_, _, _, _, _]) (v := (nI 1)) rfl rfl kc_1 rfl rfl ?_
      refine e_next (pc' := 17) rfl rfl ?_
      exact h
    · replace h := h.2 hc
      refine e_next (pc' := 48) rfl rfl ?_
      refine e_getR (pc' := 51) rfl rfl (hs.o rfl) (hs.a rfl) ?_
      refine e_next (pc' := 53) rfl rfl ?_
      obtain ⟨k4, hi_k4, hj_k4, h⟩ := h
      refine e_iald k4 (pc' := 54) rfl rfl (hs.k rfl) hi_k4 hj_k4 (by decide) ?_
      refine e_next (pc' := 58) rfl rfl ?_
      obtain ⟨k5, hi_k5, hj_k5, h⟩ := h
      refine e_iast k5 (pc' := 59) rfl rfl hk_x1 hi_k5 hj_k5 hn_x1 ?_
      refine e_iinc (pc' := 62) (ls' := [_, _, _, _, _]) (v := (nI 1)) rfl rfl kc_1 rfl rfl ?_
      refine e_next (pc' := 17) rfl rfl ?_
      exact h
theorem w217 {d : Nat} {x1 : Int32} {g : qG} {I : qI} {J : qJ} {Q : qQ} (hs : qSh g)  (h : qC d 177 [.ref 111, .int (nI 0), .ref 112, .int (nI 0)] g I J (fun v _ I1 _ => v = none ∧ qC d 216 [.ref 105, .ref 112, .int x1] g I1 J (fun v _ I2 _ => ∃ r1, v = some (.int r1) ∧ ((r1 = (-1) → qC d 211 [.ref 105] g I2 J (fun v _ I3 _ => v = none ∧ qC d 177 [.ref 112, .int (nI 0), .ref 111, .int (nI 0)] g I3 J (fun v _ I4 _ => v = none ∧ Q (some (.int (-1))) g I4 J))) ∧ (¬ r1 = (-1) → Q (some (.int r1)) g I2 J))))) : qC (d + 1) 217 [.ref 105, .int x1] g I J Q := by
  show qev (d + 1) 217 (0, [.ref 105, .int x1, qpad], [], g, I, J) Q
  refine e_next (pc' := 1) rfl rfl ?_
  refine e_getR (pc' := 4) rfl rfl (hs.o rfl) (hs.a rfl) ?_
  refine e_iconst (pc' := 5) rfl rfl kc_0 ?_
  refine e_next (pc' := 6) rfl rfl ?_
  refine e_getR (pc' := 9) rfl rfl (hs.o rfl) (hs.a rfl) ?_
  refine e_iconst (pc' := 10) rfl rfl kc_0 ?_
  refine e_ciV (pc' := 13) rfl (e_sS (as := [_, _, _, _]) (fun _ => rfl) rfl (Nat.le_of_ble_eq_true rfl) rfl rfl (Nat.le_of_ble_eq_true rfl) (Nat.le_of_ble_eq_true rfl) rfl) rfl rfl ?_
  refine qev.mono h (fun v _ I1 _ h => ?_)
  obtain ⟨rfl, h⟩ := h
  refine ⟨rfl, ?_⟩
  refine e_next (pc' := 14) rfl rfl ?_
  refine e_next (pc' := 15) rfl rfl ?_
  refine e_getR (pc' := 18) rfl rfl (hs.o rfl) (hs.a rfl) ?_
  refine e_next (pc' := 19) rfl rfl ?_
  refine e_ciI (pc' := 22) rfl (e_sV (as := [_, _]) (fun _ => rfl) (Or.inl rfl) rfl (hs.o rfl) rfl rfl (Nat.le_of_ble_eq_true rfl) (Nat.le_of_ble_eq_true rfl) rfl) rfl rfl ?_
  refine qev.mono h (fun v _ I2 _ h => ?_)
  obtain ⟨r1, rfl, h⟩ := h
  refine ⟨r1, rfl, ?_⟩
  refine e_next (pc' := 23) (ls' := [_, _, _]) rfl rfl ?_
  refine e_next (pc' := 24) rfl rfl ?_
  refine e_iconst (pc' := 25) rfl rfl kc_m1 ?_
  refine e_icmp (r1 = (-1)) (pc' := 28) rfl rfl e_d (fun hc => ?_) (fun hc => ?_)
  · replace h := h.1 hc
    refine e_next (pc' := 31) rfl rfl ?_
    refine e_ciV (pc' := 34) rfl (e_sV (as := []) (fun _ => rfl) (Or.inl rfl) rfl (hs.o rfl) rfl rfl (Nat.le_of_ble_eq_true rfl) (Nat.le_of_ble_eq_true rfl) rfl) rfl rfl ?_
    refine qev.mono h (fun v _ I3 _ h => ?_)
    obtain ⟨rfl, h⟩ := h
    refine ⟨rfl, ?_⟩
    refine e_next (pc' := 35) rfl rfl ?_
    refine e_getR (pc' := 38) rfl rfl (hs.o rfl) (hs.a rfl) ?_
    refine e_iconst (pc' := 39) rfl rfl kc_0 ?_
    refine e_next (pc' := 40) rfl rfl ?_
    refine e_getR (pc' := 43) rfl rfl (hs.o rfl) (hs.a rfl) ?_
    refine e_iconst (pc' := 44) rfl rfl kc_0 ?_
    refine e_ciV (pc' := 47) rfl (e_sS (as := [_, _, _, _]) (fun _ => rfl) rfl (Nat.le_of_ble_eq_true rfl) rfl rfl (Nat.le_of_ble_eq_true rfl) (Nat.le_of_ble_eq_true rfl) rfl) rfl rfl ?_
    refine qev.mono h (fun v _ I4 _ h => ?_)
    obtain ⟨rfl, h⟩ := h
    refine ⟨rfl, ?_⟩
    refine e_iconst (pc' := 48) rfl rfl kc_m1 ?_
    exact e_iret rfl h
  · replace h := h.2 hc
    refine e_next (pc' := 29) rfl rfl ?_
    exact e_iret rfl h
theorem w218 {d : Nat}  {g : qG} {I : qI} {J : qJ} {Q : qQ} (hs : qSh g)  (h : (((I 105 7) = 0 → Q (some (.int (nI 0))) g I J) ∧ (¬ (I 105 7) = 0 → qC d 174 [.ref 105, .int (nI 2)] g I J (fun v _ I1 _ => ∃ r1, v = some (.int r1) ∧ ((r1 = (-1) → qC d 210 [.ref 105, .ref 111, .int (nI 40)] g I1 J (fun v _ I2 _ => ∃ r2, v = some (.int r2) ∧ Q (some (.int r2)) g I2 J)) ∧ (¬ r1 = (-1) → Q (some (.int (nI 1))) g I1 J)))))) : qC (d + 1) 218 [.ref 105] g I J Q := by
  show qev (d + 1) 218 (0, [.ref 105], [], g, I, J) Q
  refine e_next (pc' := 1) rfl rfl ?_
  refine e_getI (pc' := 4) rfl (Or.inl rfl) rfl (hs.o rfl) ?_
  refine e_if (¬ (I 105 7) = 0) (pc' := 7) rfl rfl e_d (fun hc => ?_) (fun hc => ?_)
  · replace h := h.2 hc
    refine e_next (pc' := 12) rfl rfl ?_
    refine e_iconst (pc' := 13) rfl rfl kc_2 ?_
    refine e_ciI (pc' := 16) rfl (e_sV (as := [_]) (fun _ => rfl) (Or.inl rfl) rfl (hs.o rfl) rfl rfl (Nat.le_of_ble_eq_true rfl) (Nat.le_of_ble_eq_true rfl) rfl) rfl rfl ?_
    refine qev.mono h (fun v _ I1 _ h => ?_)
    obtain ⟨r1, rfl, h⟩ := h
    refine ⟨r1, rfl, ?_⟩
    refine e_iconst (pc' := 17) rfl rfl kc_m1 ?_
    refine e_icmp (r1 = (-1)) (pc' := 20) rfl rfl e_d (fun hc => ?_) (fun hc => ?_)
    · replace h := h.1 hc
      refine e_next (pc' := 25) rfl rfl ?_
      refine e_next (pc' := 26) rfl rfl ?_
      refine e_getR (pc' := 29) rfl rfl (hs.o rfl) (hs.a rfl) ?_
      refine e_bipush (pc' := 31) rfl rfl kb_40 ?_
      refine e_ciI (pc' := 34) rfl (e_sV (as := [_, _]) (fun _ => rfl) (Or.inl rfl) rfl (hs.o rfl) rfl rfl (Nat.le_of_ble_eq_true rfl) (Nat.le_of_ble_eq_true rfl) rfl) rfl rfl ?_
      refine qev.mono h (fun v _ I2 _ h => ?_)
      obtain ⟨r2, rfl, h⟩ := h
      refine ⟨r2, rfl, ?_⟩
      exact e_iret rfl h
    · replace h := h.2 hc
      refine e_iconst (pc' := 21) rfl rfl kc_1 ?_
      refine e_next (pc' := 34) rfl rfl ?_
      exact e_iret rfl h
  · replace h := h.1 (Decidable.not_not.mp hc)
    refine e_iconst (pc' := 8) rfl rfl kc_0 ?_
    refine e_next (pc' := 34) rfl rfl ?_
    exact e_iret rfl h
theorem w219 {d : Nat}  {g : qG} {I : qI} {J : qJ} {Q : qQ} (hs : qSh g)  (h : qC d 218 [.ref 105] g (qw I 105 0 (nI 0)) J (fun v _ I1 _ => ∃ r1, v = some (.int r1) ∧ ((r1 = (-1) → qC d 217 [.ref 105, .int (nI 40)] g I1 J (fun v _ I2 _ => ∃ r2, v = some (.int r2) ∧ ∃ k1, ((nI 25) * ((qw I2 105 2 (nI 0)) 107 40)) = nI k1 ∧ k1 < 381 ∧ Q (some (.int ((qw I2 105 2 (nI 0)) 111 k1))) g (qw I2 105 2 (nI 0)) J)) ∧ (¬ r1 = (-1) → qC d 213 [.ref 105, .int r1] g I1 J (fun v _ I3 _ => ∃ r3, v = some (.int r3) ∧ Q (some (.int r3)) g I3 J))))) : qC (d + 1) 219 [.ref 105] g I J Q := by
  show qev (d + 1) 219 (0, [.ref 105, qpad], [], g, I, J) Q
  refine e_next (pc' := 1) rfl rfl ?_
  refine e_iconst (pc' := 2) rfl rfl kc_0 ?_
  refine e_putI (pc' := 5) rfl rfl (hs.o rfl) ?_
  refine e_next (pc' := 6) rfl rfl ?_
  refine e_ciI (pc' := 9) rfl (e_sV (as := []) (fun _ => rfl) (Or.inl rfl) rfl (hs.o rfl) rfl rfl (Nat.le_of_ble_eq_true rfl) (Nat.le_of_ble_eq_true rfl) rfl) rfl rfl ?_
  refine qev.mono h (fun v _ I1 _ h => ?_)
  obtain ⟨r1, rfl, h⟩ := h
  refine ⟨r1, rfl, ?_⟩
  refine e_next (pc' := 10) (ls' := [_, _]) rfl rfl ?_
  refine e_next (pc' := 11) rfl rfl ?_
  refine e_iconst (pc' := 12) rfl rfl kc_m1 ?_
  refine e_icmp (r1 = (-1)) (pc' := 15) rfl rfl e_d (fun hc => ?_) (fun hc => ?_)
  · replace h := h.1 hc
    refine e_next (pc' := 22) rfl rfl ?_
    refine e_bipush (pc' := 24) rfl rfl kb_40 ?_
    refine e_ciI (pc' := 27) rfl (e_sV (as := [_]) (fun _ => rfl) (Or.inl rfl) rfl (hs.o rfl) rfl rfl (Nat.le_of_ble_eq_true rfl) (Nat.le_of_ble_eq_true rfl) rfl) rfl rfl ?_
    refine qev.mono h (fun v _ I2 _ h => ?_)
    obtain ⟨r2, rfl, h⟩ := h
    refine ⟨r2, rfl, ?_⟩
    refine e_next (pc' := 28) (ls' := [_, _]) rfl rfl ?_
    refine e_next (pc' := 29) rfl rfl ?_
    refine e_iconst (pc' := 30) rfl rfl kc_0 ?_
    refine e_putI (pc' := 33) rfl rfl (hs.o rfl) ?_
    refine e_next (pc' := 34) rfl rfl ?_
    refine e_getR (pc' := 37) rfl rfl (hs.o rfl) (hs.a rfl) ?_
    refine e_bipush (pc' := 39) rfl rfl kb_25 ?_
    refine e_next (pc' := 40) rfl rfl ?_
    refine e_getR (pc' := 43) rfl rfl (hs.o rfl) (hs.a rfl) ?_
    refine e_bipush (pc' := 45) rfl rfl kb_40 ?_
    refine e_iald 40 (pc' := 46) rfl rfl (hs.k rfl) rfl (by decide) (by decide) ?_
    refine e_next (pc' := 47) rfl rfl ?_
    obtain ⟨k1, hi_k1, hj_k1, h⟩ := h
    refine e_iald k1 (pc' := 48) rfl rfl (hs.k rfl) hi_k1 hj_k1 (by decide) ?_
    exact e_iret rfl h
  · replace h := h.2 hc
    refine e_next (pc' := 16) rfl rfl ?_
    refine e_next (pc' := 17) rfl rfl ?_
    refine e_ciI (pc' := 20) rfl (e_sV (as := [_]) (fun _ => rfl) (Or.inl rfl) rfl (hs.o rfl) rfl rfl (Nat.le_of_ble_eq_true rfl) (Nat.le_of_ble_eq_true rfl) rfl) rfl rfl ?_
    refine qev.mono h (fun v _ I3 _ h => ?_)
    obtain ⟨r3, rfl, h⟩ := h
    refine ⟨r3, rfl, ?_⟩
    exact e_iret rfl h
theorem w220 {d : Nat} {x1 : Int32} {g : qG} {I : qI} {J : qJ} {Q : qQ} (hs : qSh g)  (h : qC d 218 [.ref 105] g (qw I 105 0 (nI 0)) J (fun v _ I1 _ => ∃ r1, v = some (.int r1) ∧ ((r1 = (-1) → ((x1 = (-1) → qC d 180 [.ref 105, .int (nI 0)] g I1 J (fun v _ _ _ => ∃ r5, v = some (.int r5) ∧ Q (some (.int r5)) g I1 J)) ∧ (¬ x1 = (-1) → qC d 180 [.ref 105, .int (nI 0)] g I1 J (fun v _ _ _ => ∃ r2, v = some (.int r2) ∧ qC d 147 [.long (Int32.toInt64 x1), .long (lN 0), .long (Int32.toInt64 (r2 - (nI 1)))] g I1 J (fun v _ _ _ => ∃ r3, v = some (.int r3) ∧ ((r3 = 0 → Q (some (.int (-1000000))) g I1 J) ∧ (¬ r3 = 0 → qC d 182 [.ref 105, .int (nI 0), .int x1] g I1 J (fun v _ _ _ => ∃ r4, v = some (.int r4) ∧ Q (some (.int r4)) g I1 J)))))))) ∧ (¬ r1 = (-1) → Q (some (.int (-1000000))) g I1 J)))) : qC (d + 1) 220 [.ref 105, .int x1] g I J Q := by
  show qev (d + 1) 220 (0, [.ref 105, .int x1], [], g, I, J) Q
  refine e_next (pc' := 1) rfl rfl ?_
  refine e_iconst (pc' := 2) rfl rfl kc_0 ?_
  refine e_putI (pc' := 5) rfl rfl (hs.o rfl) ?_
  refine e_next (pc' := 6) rfl rfl ?_
  refine e_ciI (pc' := 9) rfl (e_sV (as := []) (fun _ => rfl) (Or.inl rfl) rfl (hs.o rfl) rfl rfl (Nat.le_of_ble_eq_true rfl) (Nat.le_of_ble_eq_true rfl) rfl) rfl rfl ?_
  refine qev.mono h (fun v _ I1 _ h => ?_)
  obtain ⟨r1, rfl, h⟩ := h
  refine ⟨r1, rfl, ?_⟩
  refine e_iconst (pc' := 10) rfl rfl kc_m1 ?_
  refine e_icmp (r1 = (-1)) (pc' := 13) rfl rfl e_d (fun hc => ?_) (fun hc => ?_)
  · replace h := h.1 hc
    refine e_next (pc' := 18) rfl rfl ?_
    refine e_iconst (pc' := 19) rfl rfl kc_m1 ?_
    refine e_icmp (¬ x1 = (-1)) (pc' := 22) rfl rfl e_d (fun hc => ?_) (fun hc => ?_)
    · replace h := h.2 hc
      refine e_next (pc' := 31) rfl rfl ?_
      refine e_next (pc' := 32) rfl rfl ?_
      refine e_lconst (pc' := 33) rfl rfl kl_0 ?_
      refine e_next (pc' := 34) rfl rfl ?_
      refine e_iconst (pc' := 35) rfl rfl kc_0 ?_
      refine e_cpI (pc' := 38) rfl (e_sV (as := [_]) (fun _ => rfl) (Or.inl rfl) rfl (hs.o rfl) rfl rfl (Nat.le_of_ble_eq_true rfl) (Nat.le_of_ble_eq_true rfl) rfl) rfl rfl rfl ?_
      refine qev.mono h (fun v _ _ _ h => ?_)
      obtain ⟨r2, rfl, h⟩ := h
      refine ⟨r2, rfl, ?_⟩
      refine e_iconst (pc' := 39) rfl rfl kc_1 ?_
      refine e_next (pc' := 40) rfl rfl ?_
      refine e_next (pc' := 41) rfl rfl ?_
      refine e_cpI (pc' := 44) rfl (e_sS (as := [_, _, _]) (fun _ => rfl) rfl (Nat.le_of_ble_eq_true rfl) rfl rfl (Nat.le_of_ble_eq_true rfl) (Nat.le_of_ble_eq_true rfl) rfl) rfl rfl rfl ?_
      refine qev.mono h (fun v _ _ _ h => ?_)
      obtain ⟨r3, rfl, h⟩ := h
      refine ⟨r3, rfl, ?_⟩
      refine e_if (r3 = 0) (pc' := 47) rfl rfl e_d (fun hc => ?_) (fun hc => ?_)
      · replace h := h.1 hc
        refine e_ldcw (pc' := 59) rfl rfl kn_4293967296 ?_
        exact e_iret rfl h
      · replace h := h.2 hc
        refine e_next (pc' := 48) rfl rfl ?_
        refine e_iconst (pc' := 49) rfl rfl kc_0 ?_
        refine e_next (pc' := 50) rfl rfl ?_
        refine e_cpI (pc' := 53) rfl (e_sV (as := [_, _]) (fun _ => rfl) (Or.inl rfl) rfl (hs.o rfl) rfl rfl (Nat.le_of_ble_eq_true rfl) (Nat.le_of_ble_eq_true rfl) rfl) rfl rfl rfl ?_
        refine qev.mono h (fun v _ _ _ h => ?_)
        obtain ⟨r4, rfl, h⟩ := h
        refine ⟨r4, rfl, ?_⟩
        refine e_next (pc' := 59) rfl rfl ?_
        exact e_iret rfl h
    · replace h := h.1 (Decidable.not_not.mp hc)
      refine e_next (pc' := 23) rfl rfl ?_
      refine e_iconst (pc' := 24) rfl rfl kc_0 ?_
      refine e_cpI (pc' := 27) rfl (e_sV (as := [_]) (fun _ => rfl) (Or.inl rfl) rfl (hs.o rfl) rfl rfl (Nat.le_of_ble_eq_true rfl) (Nat.le_of_ble_eq_true rfl) rfl) rfl rfl rfl ?_
      refine qev.mono h (fun v _ _ _ h => ?_)
      obtain ⟨r5, rfl, h⟩ := h
      refine ⟨r5, rfl, ?_⟩
      refine e_next (pc' := 59) rfl rfl ?_
      exact e_iret rfl h
  · replace h := h.2 hc
    refine e_ldcw (pc' := 16) rfl rfl kn_4293967296 ?_
    exact e_iret rfl h
theorem w221 {d : Nat}  {g : qG} {I : qI} {J : qJ} {Q : qQ} (hs : qSh g)  (h : qC d 218 [.ref 105] g (qw I 105 0 (nI 0)) J (fun v _ I1 _ => ∃ r1, v = some (.int r1) ∧ Q (some (.int r1)) g I1 J)) : qC (d + 1) 221 [.ref 105] g I J Q := by
  show qev (d + 1) 221 (0, [.ref 105], [], g, I, J) Q
  refine e_next (pc' := 1) rfl rfl ?_
  refine e_iconst (pc' := 2) rfl rfl kc_0 ?_
  refine e_putI (pc' := 5) rfl rfl (hs.o rfl) ?_
  refine e_next (pc' := 6) rfl rfl ?_
  refine e_ciI (pc' := 9) rfl (e_sV (as := []) (fun _ => rfl) (Or.inl rfl) rfl (hs.o rfl) rfl rfl (Nat.le_of_ble_eq_true rfl) (Nat.le_of_ble_eq_true rfl) rfl) rfl rfl ?_
  refine qev.mono h (fun v _ I1 _ h => ?_)
  obtain ⟨r1, rfl, h⟩ := h
  refine ⟨r1, rfl, ?_⟩
  exact e_iret rfl h
theorem w222 {d : Nat} {x1 : Int32} {g : qG} {I : qI} {J : qJ} {Q : qQ} (hs : qSh g)  (h : ((((qw I 105 0 (nI 0)) 105 7) = 0 → Q (some (.int (-1))) g (qw I 105 0 (nI 0)) J) ∧ (¬ ((qw I 105 0 (nI 0)) 105 7) = 0 → qC d 147 [.long (Int32.toInt64 x1), .long (lN 0), .long (lN 1)] g (qw I 105 0 (nI 0)) J (fun v _ _ _ => ∃ r1, v = some (.int r1) ∧ ((r1 = 0 → Q (some (.int (-1))) g (qw I 105 0 (nI 0)) J) ∧ (¬ r1 = 0 → ((x1 = 0 → Q (some (.int ((qw I 105 0 (nI 0)) 105 7))) g (qw I 105 0 (nI 0)) J) ∧ (¬ x1 = 0 → Q (some (.int ((qw I 105 0 (nI 0)) 105 8))) g (qw I 105 0 (nI 0)) J)))))))) : qC (d + 1) 222 [.ref 105, .int x1] g I J Q := by
  show qev (d + 1) 222 (0, [.ref 105, .int x1], [], g, I, J) Q
  refine e_next (pc' := 1) rfl rfl ?_
  refine e_iconst (pc' := 2) rfl rfl kc_0 ?_
  refine e_putI (pc' := 5) rfl rfl (hs.o rfl) ?_
  refine e_next (pc' := 6) rfl rfl ?_
  refine e_getI (pc' := 9) rfl (Or.inl rfl) rfl (hs.o rfl) ?_
  refine e_if (((qw I 105 0 (nI 0)) 105 7) = 0) (pc' := 12) rfl rfl e_d (fun hc => ?_) (fun hc => ?_)
  · replace h := h.1 hc
    refine e_iconst (pc' := 23) rfl rfl kc_m1 ?_
    refine e_next (pc' := 41) rfl rfl ?_
    exact e_iret rfl h
  · replace h := h.2 hc
    refine e_next (pc' := 13) rfl rfl ?_
    refine e_next (pc' := 14) rfl rfl ?_
    refine e_lconst (pc' := 15) rfl rfl kl_0 ?_
    refine e_lconst (pc' := 16) rfl rfl kl_1 ?_
    refine e_cpI (pc' := 19) rfl (e_sS (as := [_, _, _]) (fun _ => rfl) rfl (Nat.le_of_ble_eq_true rfl) rfl rfl (Nat.le_of_ble_eq_true rfl) (Nat.le_of_ble_eq_true rfl) rfl) rfl rfl rfl ?_
    refine qev.mono h (fun v _ _ _ h => ?_)
    obtain ⟨r1, rfl, h⟩ := h
    refine ⟨r1, rfl, ?_⟩
    refine e_if (¬ r1 = 0) (pc' := 22) rfl rfl e_d (fun hc => ?_) (fun hc => ?_)
    · replace h := h.2 hc
      refine e_next (pc' := 27) rfl rfl ?_
      refine e_if (¬ x1 = 0) (pc' := 30) rfl rfl e_d (fun hc => ?_) (fun hc => ?_)
      · replace h := h.2 hc
        refine e_next (pc' := 38) rfl rfl ?_
        refine e_getI (pc' := 41) rfl (Or.inl rfl) rfl (hs.o rfl) ?_
        exact e_iret rfl h
      · replace h := h.1 (Decidable.not_not.mp hc)
        refine e_next (pc' := 31) rfl rfl ?_
        refine e_getI (pc' := 34) rfl (Or.inl rfl) rfl (hs.o rfl) ?_
        refine e_next (pc' := 41) rfl rfl ?_
        exact e_iret rfl h
    · replace h := h.1 (Decidable.not_not.mp hc)
      refine e_iconst (pc' := 23) rfl rfl kc_m1 ?_
      refine e_next (pc' := 41) rfl rfl ?_
      exact e_iret rfl h
theorem w223 {d : Nat} {x1 : Int32} {g : qG} {I : qI} {J : qJ} {Q : qQ} (hs : qSh g)  (h : qC d 214 [.ref 105, .int x1] g (qw I 105 0 (nI 0)) J (fun v _ _ _ => ∃ r1, v = some (.int r1) ∧ ((r1 = 0 → Q (some (.int (-1))) g (qw I 105 0 (nI 0)) J) ∧ (¬ r1 = 0 → ∃ k1, ((nI 25) * x1) = nI k1 ∧ k1 < 381 ∧ Q (some (.int ((qw I 105 0 (nI 0)) 111 k1))) g (qw I 105 0 (nI 0)) J)))) : qC (d + 1) 223 [.ref 105, .int x1] g I J Q := by
  show qev (d + 1) 223 (0, [.ref 105, .int x1], [], g, I, J) Q
  refine e_next (pc' := 1) rfl rfl ?_
  refine e_iconst (pc' := 2) rfl rfl kc_0 ?_
  refine e_putI (pc' := 5) rfl rfl (hs.o rfl) ?_
  refine e_next (pc' := 6) rfl rfl ?_
  refine e_next (pc' := 7) rfl rfl ?_
  refine e_cpI (pc' := 10) rfl (e_sV (as := [_]) (fun _ => rfl) (Or.inl rfl) rfl (hs.o rfl) rfl rfl (Nat.le_of_ble_eq_true rfl) (Nat.le_of_ble_eq_true rfl) rfl) rfl rfl rfl ?_
  refine qev.mono h (fun v _ _ _ h => ?_)
  obtain ⟨r1, rfl, h⟩ := h
  refine ⟨r1, rfl, ?_⟩
  refine e_if (r1 = 0) (pc' := 13) rfl rfl e_d (fun hc => ?_) (fun hc => ?_)
  · replace h := h.1 hc
    refine e_iconst (pc' := 26) rfl rfl kc_m1 ?_
    exact e_iret rfl h
  · replace h := h.2 hc
    refine e_next (pc' := 14) rfl rfl ?_
    refine e_getR (pc' := 17) rfl rfl (hs.o rfl) (hs.a rfl) ?_
    refine e_bipush (pc' := 19) rfl rfl kb_25 ?_
    refine e_next (pc' := 20) rfl rfl ?_
    refine e_next (pc' := 21) rfl rfl ?_
    obtain ⟨k1, hi_k1, hj_k1, h⟩ := h
    refine e_iald k1 (pc' := 22) rfl rfl (hs.k rfl) hi_k1 hj_k1 (by decide) ?_
    refine e_next (pc' := 26) rfl rfl ?_
    exact e_iret rfl h
theorem w224 {d : Nat} {x1 : Int32} {x2 : Int32} {g : qG} {I : qI} {J : qJ} {Q : qQ} (hs : qSh g)  (h : qC d 215 [.ref 105, .int x1] g (qw I 105 0 (nI 0)) J (fun v _ _ _ => ∃ r1, v = some (.int r1) ∧ ((r1 = 0 → Q (some (.int (nI 0))) g (qw (qw I 105 0 (nI 0)) 105 0 (nI 1)) J) ∧ (¬ r1 = 0 → ∃ k1, ((nI 25) * x1) = nI k1 ∧ k1 < 381 ∧ qC d 147 [.long (Int32.toInt64 x2), .long (lN 0), .long (Int32.toInt64 (((qw I 105 0 (nI 0)) 111 k1) - (nI 1)))] g (qw I 105 0 (nI 0)) J (fun v _ _ _ => ∃ r2, v = some (.int r2) ∧ ((r2 = 0 → Q (some (.int (nI 0))) g (qw (qw I 105 0 (nI 0)) 105 0 (nI 1)) J) ∧ (¬ r2 = 0 → ∃ k2, ((((nI 25) * x1) + (nI 1)) + x2) = nI k2 ∧ k2 < 381 ∧ Q (some (.int ((qw I 105 0 (nI 0)) 111 k2))) g (qw I 105 0 (nI 0)) J))))))) : qC (d + 1) 224 [.ref 105, .int x1, .int x2] g I J Q := by
  show qev (d + 1) 224 (0, [.ref 105, .int x1, .int x2], [], g, I, J) Q
  refine e_next (pc' := 1) rfl rfl ?_
  refine e_iconst (pc' := 2) rfl rfl kc_0 ?_
  refine e_putI (pc' := 5) rfl rfl (hs.o rfl) ?_
  refine e_next (pc' := 6) rfl rfl ?_
  refine e_next (pc' := 7) rfl rfl ?_
  refine e_cpI (pc' := 10) rfl (e_sV (as := [_]) (fun _ => rfl) (Or.inl rfl) rfl (hs.o rfl) rfl rfl (Nat.le_of_ble_eq_true rfl) (Nat.le_of_ble_eq_true rfl) rfl) rfl rfl rfl ?_
  refine qev.mono h (fun v _ _ _ h => ?_)
  obtain ⟨r1, rfl, h⟩ := h
  refine ⟨r1, rfl, ?_⟩
  refine e_if (r1 = 0) (pc' := 13) rfl rfl e_d (fun hc => ?_) (fun hc => ?_)
  · replace h := h.1 hc
    refine e_next (pc' := 35) rfl rfl ?_
    refine e_iconst (pc' := 36) rfl rfl kc_1 ?_
    refine e_putI (pc' := 39) rfl rfl (hs.o rfl) ?_
    refine e_iconst (pc' := 40) rfl rfl kc_0 ?_
    exact e_iret rfl h
  · replace h := h.2 hc
    refine e_next (pc' := 14) rfl rfl ?_
    refine e_next (pc' := 15) rfl rfl ?_
    refine e_lconst (pc' := 16) rfl rfl kl_0 ?_
    refine e_next (pc' := 17) rfl rfl ?_
    refine e_getR (pc' := 20) rfl rfl (hs.o rfl) (hs.a rfl) ?_
    refine e_bipush (pc' := 22) rfl rfl kb_25 ?_
    refine e_next (pc' := 23) rfl rfl ?_
    refine e_next (pc' := 24) rfl rfl ?_
    obtain ⟨k1, hi_k1, hj_k1, h⟩ := h
    refine e_iald k1 (pc' := 25) rfl rfl (hs.k rfl) hi_k1 hj_k1 (by decide) ?_
    refine e_iconst (pc' := 26) rfl rfl kc_1 ?_
    refine e_next (pc' := 27) rfl rfl ?_
    refine e_next (pc' := 28) rfl rfl ?_
    refine e_cpI (pc' := 31) rfl (e_sS (as := [_, _, _]) (fun _ => rfl) rfl (Nat.le_of_ble_eq_true rfl) rfl rfl (Nat.le_of_ble_eq_true rfl) (Nat.le_of_ble_eq_true rfl) rfl) rfl rfl rfl ?_
    refine qev.mono h (fun v _ _ _ h => ?_)
    obtain ⟨r2, rfl, h⟩ := h
    refine ⟨r2, rfl, ?_⟩
    refine e_if (¬ r2 = 0) (pc' := 34) rfl rfl e_d (fun hc => ?_) (fun hc => ?_)
    · replace h := h.2 hc
      refine e_next (pc' := 42) rfl rfl ?_
      refine e_getR (pc' := 45) rfl rfl (hs.o rfl) (hs.a rfl) ?_
      refine e_bipush (pc' := 47) rfl rfl kb_25 ?_
      refine e_next (pc' := 48) rfl rfl ?_
      refine e_next (pc' := 49) rfl rfl ?_
      refine e_iconst (pc' := 50) rfl rfl kc_1 ?_
      refine e_next (pc' := 51) rfl rfl ?_
      refine e_next (pc' := 52) rfl rfl ?_
      refine e_next (pc' := 53) rfl rfl ?_
      obtain ⟨k2, hi_k2, hj_k2, h⟩ := h
      refine e_iald k2 (pc' := 54) rfl rfl (hs.k rfl) hi_k2 hj_k2 (by decide) ?_
      exact e_iret rfl h
    · replace h := h.1 (Decidable.not_not.mp hc)
      refine e_next (pc' := 35) rfl rfl ?_
      refine e_iconst (pc' := 36) rfl rfl kc_1 ?_
      refine e_putI (pc' := 39) rfl rfl (hs.o rfl) ?_
      refine e_iconst (pc' := 40) rfl rfl kc_0 ?_
      exact e_iret rfl h
theorem w225 {d : Nat} {x1 : Int32} {x2 : Int32} {g : qG} {I : qI} {J : qJ} {Q : qQ}  (h : qev d 225 (2, [.ref 105, .int x1, .int x2, .int (nI 0)], [], g, I, J) Q) : qC d 225 [.ref 105, .int x1, .int x2] g I J Q := by
  show qev d 225 (0, [.ref 105, .int x1, .int x2, qpad], [], g, I, J) Q
  refine e_iconst (pc' := 1) rfl rfl kc_0 ?_
  refine e_next (pc' := 2) (ls' := [_, _, _, _]) rfl rfl ?_
  exact h
theorem w225_2 {d : Nat} {i1 : Int32} {i2 : Int32} {i3 : Int32} {g : qG} {I : qI} {J : qJ} {Q : qQ} (hs : qSh g)  (h : (((nI 25) ≤ i3 → Q none g I J) ∧ (¬ (nI 25) ≤ i3 → ∃ k1, (((nI 25) * i1) + i3) = nI k1 ∧ k1 < 381 ∧ ∃ k2, (((nI 25) * i2) + i3) = nI k2 ∧ k2 < 1200 ∧ qev d 225 (2, [.ref 105, .int i1, .int i2, .int (i3 + (nI 1))], [], g, (qw I 115 k2 (I 111 k1)), J) Q))) : qev d 225 (2, [.ref 105, .int i1, .int i2, .int i3], [], g, I, J) Q := by
  refine e_next (pc' := 3) rfl rfl ?_
  refine e_bipush (pc' := 5) rfl rfl kb_25 ?_
  refine e_icmp ((nI 25) ≤ i3) (pc' := 8) rfl rfl e_d (fun hc => ?_) (fun hc => ?_)
  · replace h := h.1 hc
    exact qev_ret rfl rfl h
  · replace h := h.2 hc
    refine e_next (pc' := 9) rfl rfl ?_
    refine e_getR (pc' := 12) rfl rfl (hs.o rfl) (hs.a rfl) ?_
    refine e_bipush (pc' := 14) rfl rfl kb_25 ?_
    refine e_next (pc' := 15) rfl rfl ?_
    refine e_next (pc' := 16) rfl rfl ?_
    refine e_next (pc' := 17) rfl rfl ?_
    refine e_next (pc' := 18) rfl rfl ?_
    refine e_next (pc' := 19) rfl rfl ?_
    refine e_getR (pc' := 22) rfl rfl (hs.o rfl) (hs.a rfl) ?_
    refine e_bipush (pc' := 24) rfl rfl kb_25 ?_
    refine e_next (pc' := 25) rfl rfl ?_
    refine e_next (pc' := 26) rfl rfl ?_
    refine e_next (pc' := 27) rfl rfl ?_
    refine e_next (pc' := 28) rfl rfl ?_
    obtain ⟨k1, hi_k1, hj_k1, h⟩ := h
    refine e_iald k1 (pc' := 29) rfl rfl (hs.k rfl) hi_k1 hj_k1 (by decide) ?_
    obtain ⟨k2, hi_k2, hj_k2, h⟩ := h
    refine e_iast k2 (pc' := 30) rfl rfl (hs.k rfl) hi_k2 hj_k2 (by decide) ?_
    refine e_iinc (pc' := 33) (ls' := [_, _, _, _]) (v := (nI 1)) rfl rfl kc_1 rfl rfl ?_
    refine e_next (pc' := 2) rfl rfl ?_
    exact h
theorem w226 {d : Nat} {x1 : Int32} {g : qG} {I : qI} {J : qJ} {Q : qQ} (hs : qSh g)  (h : qC d 215 [.ref 105, .int x1] g (qw I 105 0 (nI 0)) J (fun v _ _ _ => ∃ r1, v = some (.int r1) ∧ ((r1 = 0 → Q (some (.int (-1))) g (qw I 105 0 (nI 0)) J) ∧ (¬ r1 = 0 → qC d 225 [.ref 105, .int x1, .int (nI 0)] g (qw I 105 0 (nI 0)) J (fun v _ I1 _ => v = none ∧ qC d 185 [.ref 105, .int (nI 0)] g I1 J (fun v _ _ _ => ∃ r2, v = some (.int r2) ∧ Q (some (.int r2)) g I1 J)))))) : qC (d + 1) 226 [.ref 105, .int x1] g I J Q := by
  show qev (d + 1) 226 (0, [.ref 105, .int x1], [], g, I, J) Q
  refine e_next (pc' := 1) rfl rfl ?_
  refine e_iconst (pc' := 2) rfl rfl kc_0 ?_
  refine e_putI (pc' := 5) rfl rfl (hs.o rfl) ?_
  refine e_next (pc' := 6) rfl rfl ?_
  refine e_next (pc' := 7) rfl rfl ?_
  refine e_cpI (pc' := 10) rfl (e_sV (as := [_]) (fun _ => rfl) (Or.inl rfl) rfl (hs.o rfl) rfl rfl (Nat.le_of_ble_eq_true rfl) (Nat.le_of_ble_eq_true rfl) rfl) rfl rfl rfl ?_
  refine qev.mono h (fun v _ _ _ h => ?_)
  obtain ⟨r1, rfl, h⟩ := h
  refine ⟨r1, rfl, ?_⟩
  refine e_if (¬ r1 = 0) (pc' := 13) rfl rfl e_d (fun hc => ?_) (fun hc => ?_)
  · replace h := h.2 hc
    refine e_next (pc' := 16) rfl rfl ?_
    refine e_next (pc' := 17) rfl rfl ?_
    refine e_iconst (pc' := 18) rfl rfl kc_0 ?_
    refine e_ciV (pc' := 21) rfl (e_sV (as := [_, _]) (fun _ => rfl) (Or.inl rfl) rfl (hs.o rfl) rfl rfl (Nat.le_of_ble_eq_true rfl) (Nat.le_of_ble_eq_true rfl) rfl) rfl rfl ?_
    refine qev.mono h (fun v _ I1 _ h => ?_)
    obtain ⟨rfl, h⟩ := h
    refine ⟨rfl, ?_⟩
    refine e_next (pc' := 22) rfl rfl ?_
    refine e_iconst (pc' := 23) rfl rfl kc_0 ?_
    refine e_cpI (pc' := 26) rfl (e_sV (as := [_]) (fun _ => rfl) (Or.inl rfl) rfl (hs.o rfl) rfl rfl (Nat.le_of_ble_eq_true rfl) (Nat.le_of_ble_eq_true rfl) rfl) rfl rfl rfl ?_
    refine qev.mono h (fun v _ _ _ h => ?_)
    obtain ⟨r2, rfl, h⟩ := h
    refine ⟨r2, rfl, ?_⟩
    exact e_iret rfl h
  · replace h := h.1 (Decidable.not_not.mp hc)
    refine e_iconst (pc' := 14) rfl rfl kc_m1 ?_
    exact e_iret rfl h
theorem w227 {d : Nat} {x1 : Int32} {x2 : Int32} {g : qG} {I : qI} {J : qJ} {Q : qQ} (hs : qSh g)  (h : qC d 215 [.ref 105, .int x1] g (qw I 105 0 (nI 0)) J (fun v _ _ _ => ∃ r1, v = some (.int r1) ∧ ((r1 = 0 → qC d 213 [.ref 105, .int (nI 0)] g (qw I 105 0 (nI 0)) J (fun v _ I4 _ => ∃ r4, v = some (.int r4) ∧ Q (some (.int r4)) g I4 J)) ∧ (¬ r1 = 0 → ∃ k1, ((nI 25) * x1) = nI k1 ∧ k1 < 381 ∧ (((nI 1) ≤ x2 → ((x2 < ((qw I 105 0 (nI 0)) 111 k1) → qC d 211 [.ref 105] g (qw I 105 0 (nI 0)) J (fun v _ I1 _ => v = none ∧ qev (d + 1) 227 (58, [.ref 105, .int x1, .int x2, .int ((qw I 105 0 (nI 0)) 111 k1), .int x2], [], g, I1, J) Q)) ∧ (¬ x2 < ((qw I 105 0 (nI 0)) 111 k1) → qC d 213 [.ref 105, .int (nI 2)] g (qw I 105 0 (nI 0)) J (fun v _ I2 _ => ∃ r2, v = some (.int r2) ∧ Q (some (.int r2)) g I2 J)))) ∧ (¬ (nI 1) ≤ x2 → qC d 213 [.ref 105, .int (nI 1)] g (qw I 105 0 (nI 0)) J (fun v _ I3 _ => ∃ r3, v = some (.int r3) ∧ Q (some (.int r3)) g I3 J))))))) : qC (d + 1) 227 [.ref 105, .int x1, .int x2] g I J Q := by
  show qev (d + 1) 227 (0, [.ref 105, .int x1, .int x2, qpad, qpad], [], g, I, J) Q
  refine e_next (pc' := 1) rfl rfl ?_
  refine e_iconst (pc' := 2) rfl rfl kc_0 ?_
  refine e_putI (pc' := 5) rfl rfl (hs.o rfl) ?_
  refine e_next (pc' := 6) rfl rfl ?_
  refine e_next (pc' := 7) rfl rfl ?_
  refine e_cpI (pc' := 10) rfl (e_sV (as := [_]) (fun _ => rfl) (Or.inl rfl) rfl (hs.o rfl) rfl rfl (Nat.le_of_ble_eq_true rfl) (Nat.le_of_ble_eq_true rfl) rfl) rfl rfl rfl ?_
  refine qev.mono h (fun v _ _ _ h => ?_)
  obtain ⟨r1, rfl, h⟩ := h
  refine ⟨r1, rfl, ?_⟩
  refine e_if (¬ r1 = 0) (pc' := 13) rfl rfl e_d (fun hc => ?_) (fun hc => ?_)
  · replace h := h.2 hc
    refine e_next (pc' := 20) rfl rfl ?_
    refine e_getR (pc' := 23) rfl rfl (hs.o rfl) (hs.a rfl) ?_
    refine e_bipush (pc' := 25) rfl rfl kb_25 ?_
    refine e_next (pc' := 26) rfl rfl ?_
    refine e_next (pc' := 27) rfl rfl ?_
    obtain ⟨k1, hi_k1, hj_k1, h⟩ := h
    refine e_iald k1 (pc' := 28) rfl rfl (hs.k rfl) hi_k1 hj_k1 (by decide) ?_
    refine e_next (pc' := 29) (ls' := [_, _, _, _, _]) rfl rfl ?_
    refine e_next (pc' := 30) rfl rfl ?_
    refine e_iconst (pc' := 31) rfl rfl kc_1 ?_
    refine e_icmp ((nI 1) ≤ x2) (pc' := 34) rfl rfl e_d (fun hc => ?_) (fun hc => ?_)
    · replace h := h.1 hc
      refine e_next (pc' := 41) rfl rfl ?_
      refine e_next (pc' := 42) rfl rfl ?_
      refine e_icmp (x2 < ((qw I 105 0 (nI 0)) 111 k1)) (pc' := 45) rfl rfl e_d (fun hc => ?_) (fun hc => ?_)
      · replace h := h.1 hc
        refine e_next (pc' := 52) rfl rfl ?_
        refine e_ciV (pc' := 55) rfl (e_sV (as := []) (fun _ => rfl) (Or.inl rfl) rfl (hs.o rfl) rfl rfl (Nat.le_of_ble_eq_true rfl) (Nat.le_of_ble_eq_true rfl) rfl) rfl rfl ?_
        refine qev.mono h (fun v _ I1 _ h => ?_)
        obtain ⟨rfl, h⟩ := h
        refine ⟨rfl, ?_⟩
        refine e_next (pc' := 56) rfl rfl ?_
        refine e_next (pc' := 58) (ls' := [_, _, _, _, _]) rfl rfl ?_
        exact h
      · replace h := h.2 hc
        refine e_next (pc' := 46) rfl rfl ?_
        refine e_iconst (pc' := 47) rfl rfl kc_2 ?_
        refine e_ciI (pc' := 50) rfl (e_sV (as := [_]) (fun _ => rfl) (Or.inl rfl) rfl (hs.o rfl) rfl rfl (Nat.le_of_ble_eq_true rfl) (Nat.le_of_ble_eq_true rfl) rfl) rfl rfl ?_
        refine qev.mono h (fun v _ I2 _ h => ?_)
        obtain ⟨r2, rfl, h⟩ := h
        refine ⟨r2, rfl, ?_⟩
        exact e_iret rfl h
    · replace h := h.2 hc
      refine e_next (pc' := 35) rfl rfl ?_
      refine e_iconst (pc' := 36) rfl rfl kc_1 ?_
      refine e_ciI (pc' := 39) rfl (e_sV (as := [_]) (fun _ => rfl) (Or.inl rfl) rfl (hs.o rfl) rfl rfl (Nat.le_of_ble_eq_true rfl) (Nat.le_of_ble_eq_true rfl) rfl) rfl rfl ?_
      refine qev.mono h (fun v _ I3 _ h => ?_)
      obtain ⟨r3, rfl, h⟩ := h
      refine ⟨r3, rfl, ?_⟩
      exact e_iret rfl h
  · replace h := h.1 (Decidable.not_not.mp hc)
    refine e_next (pc' := 14) rfl rfl ?_
    refine e_iconst (pc' := 15) rfl rfl kc_0 ?_
    refine e_ciI (pc' := 18) rfl (e_sV (as := [_]) (fun _ => rfl) (Or.inl rfl) rfl (hs.o rfl) rfl rfl (Nat.le_of_ble_eq_true rfl) (Nat.le_of_ble_eq_true rfl) rfl) rfl rfl ?_
    refine qev.mono h (fun v _ I4 _ h => ?_)
    obtain ⟨r4, rfl, h⟩ := h
    refine ⟨r4, rfl, ?_⟩
    exact e_iret rfl h
theorem w227_58 {d : Nat} {i1 : Int32} {i2 : Int32} {i3 : Int32} {i4 : Int32} {g : qG} {I : qI} {J : qJ} {Q : qQ} (hs : qSh g)  (h : (((nI 24) ≤ i4 → ∃ k1, ((nI 25) * i1) = nI k1 ∧ k1 < 381 ∧ qC d 212 [.ref 105, .ref 111, .int (nI 1), .int i1] g (qw I 111 k1 i2) J (fun v _ I1 _ => v = none ∧ Q (some (.int i3)) g I1 J)) ∧ (¬ (nI 24) ≤ i4 → ∃ k2, ((((nI 25) * i1) + (nI 1)) + i4) = nI k2 ∧ k2 < 381 ∧ qev (d + 1) 227 (58, [.ref 105, .int i1, .int i2, .int i3, .int (i4 + (nI 1))], [], g, (qw I 111 k2 (nI 0)), J) Q))) : qev (d + 1) 227 (58, [.ref 105, .int i1, .int i2, .int i3, .int i4], [], g, I, J) Q := by
  refine e_next (pc' := 60) rfl rfl ?_
  refine e_bipush (pc' := 62) rfl rfl kb_24 ?_
  refine e_icmp ((nI 24) ≤ i4) (pc' := 65) rfl rfl e_d (fun hc => ?_) (fun hc => ?_)
  · replace h := h.1 hc
    refine e_next (pc' := 87) rfl rfl ?_
    refine e_getR (pc' := 90) rfl rfl (hs.o rfl) (hs.a rfl) ?_
    refine e_bipush (pc' := 92) rfl rfl kb_25 ?_
    refine e_next (pc' := 93) rfl rfl ?_
    refine e_next (pc' := 94) rfl rfl ?_
    refine e_next (pc' := 95) rfl rfl ?_
    obtain ⟨k1, hi_k1, hj_k1, h⟩ := h
    refine e_iast k1 (pc' := 96) rfl rfl (hs.k rfl) hi_k1 hj_k1 (by decide) ?_
    refine e_next (pc' := 97) rfl rfl ?_
    refine e_next (pc' := 98) rfl rfl ?_
    refine e_getR (pc' := 101) rfl rfl (hs.o rfl) (hs.a rfl) ?_
    refine e_iconst (pc' := 102) rfl rfl kc_1 ?_
    refine e_next (pc' := 103) rfl rfl ?_
    refine e_ciV (pc' := 106) rfl (e_sV (as := [_, _, _]) (fun _ => rfl) (Or.inl rfl) rfl (hs.o rfl) rfl rfl (Nat.le_of_ble_eq_true rfl) (Nat.le_of_ble_eq_true rfl) rfl) rfl rfl ?_
    refine qev.mono h (fun v _ I1 _ h => ?_)
    obtain ⟨rfl, h⟩ := h
    refine ⟨rfl, ?_⟩
    refine e_next (pc' := 107) rfl rfl ?_
    exact e_iret rfl h
  · replace h := h.2 hc
    refine e_next (pc' := 66) rfl rfl ?_
    refine e_getR (pc' := 69) rfl rfl (hs.o rfl) (hs.a rfl) ?_
    refine e_bipush (pc' := 71) rfl rfl kb_25 ?_
    refine e_next (pc' := 72) rfl rfl ?_
    refine e_next (pc' := 73) rfl rfl ?_
    refine e_iconst (pc' := 74) rfl rfl kc_1 ?_
    refine e_next (pc' := 75) rfl rfl ?_
    refine e_next (pc' := 77) rfl rfl ?_
    refine e_next (pc' := 78) rfl rfl ?_
    refine e_iconst (pc' := 79) rfl rfl kc_0 ?_
    obtain ⟨k2, hi_k2, hj_k2, h⟩ := h
    refine e_iast k2 (pc' := 80) rfl rfl (hs.k rfl) hi_k2 hj_k2 (by decide) ?_
    refine e_iinc (pc' := 83) (ls' := [_, _, _, _, _]) (v := (nI 1)) rfl rfl kc_1 rfl rfl ?_
    refine e_next (pc' := 58) rfl rfl ?_
    exact h
theorem w228 {d : Nat} {x1 : Int32} {g : qG} {I : qI} {J : qJ} {Q : qQ} (hs : qSh g)  (h : qC d 215 [.ref 105, .int x1] g (qw I 105 0 (nI 0)) J (fun v _ _ _ => ∃ r1, v = some (.int r1) ∧ ((r1 = 0 → qC d 213 [.ref 105, .int (nI 0)] g (qw I 105 0 (nI 0)) J (fun v _ I2 _ => ∃ r2, v = some (.int r2) ∧ Q (some (.int r2)) g I2 J)) ∧ (¬ r1 = 0 → qC d 211 [.ref 105] g (qw I 105 0 (nI 0)) J (fun v _ I1 _ => v = none ∧ ∃ k1, ((nI 25) * x1) = nI k1 ∧ k1 < 381 ∧ qev (d + 1) 228 (35, [.ref 105, .int x1, .int (I1 111 k1), .int (nI 0)], [], g, I1, J) Q))))) : qC (d + 1) 228 [.ref 105, .int x1] g I J Q := by
  show qev (d + 1) 228 (0, [.ref 105, .int x1, qpad, qpad], [], g, I, J) Q
  refine e_next (pc' := 1) rfl rfl ?_
  refine e_iconst (pc' := 2) rfl rfl kc_0 ?_
  refine e_putI (pc' := 5) rfl rfl (hs.o rfl) ?_
  refine e_next (pc' := 6) rfl rfl ?_
  refine e_next (pc' := 7) rfl rfl ?_
  refine e_cpI (pc' := 10) rfl (e_sV (as := [_]) (fun _ => rfl) (Or.inl rfl) rfl (hs.o rfl) rfl rfl (Nat.le_of_ble_eq_true rfl) (Nat.le_of_ble_eq_true rfl) rfl) rfl rfl rfl ?_
  refine qev.mono h (fun v _ _ _ h => ?_)
  obtain ⟨r1, rfl, h⟩ := h
  refine ⟨r1, rfl, ?_⟩
  refine e_if (¬ r1 = 0) (pc' := 13) rfl rfl e_d (fun hc => ?_) (fun hc => ?_)
  · replace h := h.2 hc
    refine e_next (pc' := 20) rfl rfl ?_
    refine e_ciV (pc' := 23) rfl (e_sV (as := []) (fun _ => rfl) (Or.inl rfl) rfl (hs.o rfl) rfl rfl (Nat.le_of_ble_eq_true rfl) (Nat.le_of_ble_eq_true rfl) rfl) rfl rfl ?_
    refine qev.mono h (fun v _ I1 _ h => ?_)
    obtain ⟨rfl, h⟩ := h
    refine ⟨rfl, ?_⟩
    refine e_next (pc' := 24) rfl rfl ?_
    refine e_getR (pc' := 27) rfl rfl (hs.o rfl) (hs.a rfl) ?_
    refine e_bipush (pc' := 29) rfl rfl kb_25 ?_
    refine e_next (pc' := 30) rfl rfl ?_
    refine e_next (pc' := 31) rfl rfl ?_
    obtain ⟨k1, hi_k1, hj_k1, h⟩ := h
    refine e_iald k1 (pc' := 32) rfl rfl (hs.k rfl) hi_k1 hj_k1 (by decide) ?_
    refine e_next (pc' := 33) (ls' := [_, _, _, _]) rfl rfl ?_
    refine e_iconst (pc' := 34) rfl rfl kc_0 ?_
    refine e_next (pc' := 35) (ls' := [_, _, _, _]) rfl rfl ?_
    exact h
  · replace h := h.1 (Decidable.not_not.mp hc)
    refine e_next (pc' := 14) rfl rfl ?_
    refine e_iconst (pc' := 15) rfl rfl kc_0 ?_
    refine e_ciI (pc' := 18) rfl (e_sV (as := [_]) (fun _ => rfl) (Or.inl rfl) rfl (hs.o rfl) rfl rfl (Nat.le_of_ble_eq_true rfl) (Nat.le_of_ble_eq_true rfl) rfl) rfl rfl ?_
    refine qev.mono h (fun v _ I2 _ h => ?_)
    obtain ⟨r2, rfl, h⟩ := h
    refine ⟨r2, rfl, ?_⟩
    exact e_iret rfl h
theorem w228_35 {d : Nat} {i1 : Int32} {i2 : Int32} {i3 : Int32} {g : qG} {I : qI} {J : qJ} {Q : qQ} (hs : qSh g)  (h : (((nI 25) ≤ i3 → qC d 212 [.ref 105, .ref 111, .int (nI 2), .int i1] g I J (fun v _ I1 _ => v = none ∧ Q (some (.int i2)) g I1 J)) ∧ (¬ (nI 25) ≤ i3 → ∃ k1, (((nI 25) * i1) + i3) = nI k1 ∧ k1 < 381 ∧ qev (d + 1) 228 (35, [.ref 105, .int i1, .int i2, .int (i3 + (nI 1))], [], g, (qw I 111 k1 (nI 0)), J) Q))) : qev (d + 1) 228 (35, [.ref 105, .int i1, .int i2, .int i3], [], g, I, J) Q := by
  refine e_next (pc' := 36) rfl rfl ?_
  refine e_bipush (pc' := 38) rfl rfl kb_25 ?_
  refine e_icmp ((nI 25) ≤ i3) (pc' := 41) rfl rfl e_d (fun hc => ?_) (fun hc => ?_)
  · replace h := h.1 hc
    refine e_next (pc' := 60) rfl rfl ?_
    refine e_next (pc' := 61) rfl rfl ?_
    refine e_getR (pc' := 64) rfl rfl (hs.o rfl) (hs.a rfl) ?_
    refine e_iconst (pc' := 65) rfl rfl kc_2 ?_
    refine e_next (pc' := 66) rfl rfl ?_
    refine e_ciV (pc' := 69) rfl (e_sV (as := [_, _, _]) (fun _ => rfl) (Or.inl rfl) rfl (hs.o rfl) rfl rfl (Nat.le_of_ble_eq_true rfl) (Nat.le_of_ble_eq_true rfl) rfl) rfl rfl ?_
    refine qev.mono h (fun v _ I1 _ h => ?_)
    obtain ⟨rfl, h⟩ := h
    refine ⟨rfl, ?_⟩
    refine e_next (pc' := 70) rfl rfl ?_
    exact e_iret rfl h
  · replace h := h.2 hc
    refine e_next (pc' := 42) rfl rfl ?_
    refine e_getR (pc' := 45) rfl rfl (hs.o rfl) (hs.a rfl) ?_
    refine e_bipush (pc' := 47) rfl rfl kb_25 ?_
    refine e_next (pc' := 48) rfl rfl ?_
    refine e_next (pc' := 49) rfl rfl ?_
    refine e_next (pc' := 50) rfl rfl ?_
    refine e_next (pc' := 51) rfl rfl ?_
    refine e_iconst (pc' := 52) rfl rfl kc_0 ?_
    obtain ⟨k1, hi_k1, hj_k1, h⟩ := h
    refine e_iast k1 (pc' := 53) rfl rfl (hs.k rfl) hi_k1 hj_k1 (by decide) ?_
    refine e_iinc (pc' := 56) (ls' := [_, _, _, _]) (v := (nI 1)) rfl rfl kc_1 rfl rfl ?_
    refine e_next (pc' := 35) rfl rfl ?_
    exact h
theorem w229 {d : Nat} {x1 : Int32} {x2 : Int32} {g : qG} {I : qI} {J : qJ} {Q : qQ} (hs : qSh g)  (h : qC d 214 [.ref 105, .int x1] g (qw I 105 0 (nI 0)) J (fun v _ _ _ => ∃ r1, v = some (.int r1) ∧ ((r1 = 0 → qC d 213 [.ref 105, .int (nI 0)] g (qw I 105 0 (nI 0)) J (fun v _ I1 _ => ∃ r2, v = some (.int r2) ∧ Q (some (.int r2)) g I1 J)) ∧ (¬ r1 = 0 → qC d 214 [.ref 105, .int x2] g (qw I 105 0 (nI 0)) J (fun v _ _ _ => ∃ r3, v = some (.int r3) ∧ ((r3 = 0 → qC d 213 [.ref 105, .int (nI 0)] g (qw I 105 0 (nI 0)) J (fun v _ I2 _ => ∃ r4, v = some (.int r4) ∧ Q (some (.int r4)) g I2 J)) ∧ (¬ r3 = 0 → qC d 215 [.ref 105, .int x1] g (qw I 105 0 (nI 0)) J (fun v _ _ _ => ∃ r5, v = some (.int r5) ∧ ((r5 = 0 → qC d 215 [.ref 105, .int x2] g (qw I 105 0 (nI 0)) J (fun v _ _ _ => ∃ r7, v = some (.int r7) ∧ ((r7 = 0 → qC d 213 [.ref 105, .int (nI 0)] g (qw I 105 0 (nI 0)) J (fun v _ I7 _ => ∃ r9, v = some (.int r9) ∧ Q (some (.int r9)) g I7 J)) ∧ (¬ r7 = 0 → ((x1 = x2 → qC d 213 [.ref 105, .int (nI 2)] g (qw I 105 0 (nI 0)) J (fun v _ I6 _ => ∃ r8, v = some (.int r8) ∧ Q (some (.int r8)) g I6 J)) ∧ (¬ x1 = x2 → qC d 211 [.ref 105] g (qw I 105 0 (nI 0)) J (fun v _ I5 _ => v = none ∧ qev (d + 1) 229 (60, [.ref 105, .int x1, .int x2, .int (nI 0), qpad], [], g, I5, J) Q))))))) ∧ (¬ r5 = 0 → ((x1 = x2 → qC d 213 [.ref 105, .int (nI 2)] g (qw I 105 0 (nI 0)) J (fun v _ I4 _ => ∃ r6, v = some (.int r6) ∧ Q (some (.int r6)) g I4 J)) ∧ (¬ x1 = x2 → qC d 211 [.ref 105] g (qw I 105 0 (nI 0)) J (fun v _ I3 _ => v = none ∧ qev (d + 1) 229 (60, [.ref 105, .int x1, .int x2, .int (nI 0), qpad], [], g, I3, J) Q))))))))))))) : qC (d + 1) 229 [.ref 105, .int x1, .int x2] g I J Q := by
  show qev (d + 1) 229 (0, [.ref 105, .int x1, .int x2, qpad, qpad], [], g, I, J) Q
  refine e_next (pc' := 1) rfl rfl ?_
  refine e_iconst (pc' := 2) rfl rfl kc_0 ?_
  refine e_putI (pc' := 5) rfl rfl (hs.o rfl) ?_
  refine e_next (pc' := 6) rfl rfl ?_
  refine e_next (pc' := 7) rfl rfl ?_
  refine e_cpI (pc' := 10) rfl (e_sV (as := [_]) (fun _ => rfl) (Or.inl rfl) rfl (hs.o rfl) rfl rfl (Nat.le_of_ble_eq_true rfl) (Nat.le_of_ble_eq_true rfl) rfl) rfl rfl rfl ?_
  refine qev.mono h (fun v _ _ _ h => ?_)
  obtain ⟨r1, rfl, h⟩ := h
  refine ⟨r1, rfl, ?_⟩
  refine e_if (r1 = 0) (pc' := 13) rfl rfl e_d (fun hc => ?_) (fun hc => ?_)
  · replace h := h.1 hc
    refine e_next (pc' := 38) rfl rfl ?_
    refine e_iconst (pc' := 39) rfl rfl kc_0 ?_
    refine e_ciI (pc' := 42) rfl (e_sV (as := [_]) (fun _ => rfl) (Or.inl rfl) rfl (hs.o rfl) rfl rfl (Nat.le_of_ble_eq_true rfl) (Nat.le_of_ble_eq_true rfl) rfl) rfl rfl ?_
    refine qev.mono h (fun v _ I1 _ h => ?_)
    obtain ⟨r2, rfl, h⟩ := h
    refine ⟨r2, rfl, ?_⟩
    exact e_iret rfl h
  · replace h := h.2 hc
    refine e_next (pc' := 14) rfl rfl ?_
    refine e_next (pc' := 15) rfl rfl ?_
    refine e_cpI (pc' := 18) rfl (e_sV (as := [_]) (fun _ => rfl) (Or.inl rfl) rfl (hs.o rfl) rfl rfl (Nat.le_of_ble_eq_true rfl) (Nat.le_of_ble_eq_true rfl) rfl) rfl rfl rfl ?_
    refine qev.mono h (fun v _ _ _ h => ?_)
    obtain ⟨r3, rfl, h⟩ := h
    refine ⟨r3, rfl, ?_⟩
    refine e_if (r3 = 0) (pc' := 21) rfl rfl e_d (fun hc => ?_) (fun hc => ?_)
    · replace h := h.1 hc
      refine e_next (pc' := 38) rfl rfl ?_
      refine e_iconst (pc' := 39) rfl rfl kc_0 ?_
      refine e_ciI (pc' := 42) rfl (e_sV (as := [_]) (fun _ => rfl) (Or.inl rfl) rfl (hs.o rfl) rfl rfl (Nat.le_of_ble_eq_true rfl) (Nat.le_of_ble_eq_true rfl) rfl) rfl rfl ?_
      refine qev.mono h (fun v _ I2 _ h => ?_)
      obtain ⟨r4, rfl, h⟩ := h
      refine ⟨r4, rfl, ?_⟩
      exact e_iret rfl h
    · replace h := h.2 hc
      refine e_next (pc' := 22) rfl rfl ?_
      refine e_next (pc' := 23) rfl rfl ?_
      refine e_cpI (pc' := 26) rfl (e_sV (as := [_]) (fun _ => rfl) (Or.inl rfl) rfl (hs.o rfl) rfl rfl (Nat.le_of_ble_eq_true rfl) (Nat.le_of_ble_eq_true rfl) rfl) rfl rfl rfl ?_
      refine qev.mono h (fun v _ _ _ h => ?_)
      obtain ⟨r5, rfl, h⟩ := h
      refine ⟨r5, rfl, ?_⟩
      refine e_if (¬ r5 = 0) (pc' := 29) rfl rfl e_d (fun hc => ?_) (fun hc => ?_)
      · replace h := h.2 hc
        refine e_next (pc' := 44) rfl rfl ?_
        refine e_next (pc' := 45) rfl rfl ?_
        refine e_icmp (¬ x1 = x2) (pc' := 48) rfl rfl e_d (fun hc => ?_) (fun hc => ?_)
        · replace h := h.2 hc
          refine e_next (pc' := 55) rfl rfl ?_
          refine e_ciV (pc' := 58) rfl (e_sV (as := []) (fun _ => rfl) (Or.inl rfl) rfl (hs.o rfl) rfl rfl (Nat.le_of_ble_eq_true rfl) (Nat.le_of_ble_eq_true rfl) rfl) rfl rfl ?_
          refine qev.mono h (fun v _ I3 _ h => ?_)
          obtain ⟨rfl, h⟩ := h
          refine ⟨rfl, ?_⟩
          refine e_iconst (pc' := 59) rfl rfl kc_0 ?_
          refine e_next (pc' := 60) (ls' := [_, _, _, _, _]) rfl rfl ?_
          exact h
        · replace h := h.1 (Decidable.not_not.mp hc)
          refine e_next (pc' := 49) rfl rfl ?_
          refine e_iconst (pc' := 50) rfl rfl kc_2 ?_
          refine e_ciI (pc' := 53) rfl (e_sV (as := [_]) (fun _ => rfl) (Or.inl rfl) rfl (hs.o rfl) rfl rfl (Nat.le_of_ble_eq_true rfl) (Nat.le_of_ble_eq_true rfl) rfl) rfl rfl ?_
          refine qev.mono h (fun v _ I4 _ h => ?_)
          obtain ⟨r6, rfl, h⟩ := h
          refine ⟨r6, rfl, ?_⟩
          exact e_iret rfl h
      · replace h := h.1 (Decidable.not_not.mp hc)
        refine e_next (pc' := 30) rfl rfl ?_
        refine e_next (pc' := 31) rfl rfl ?_
        refine e_cpI (pc' := 34) rfl (e_sV (as := [_]) (fun _ => rfl) (Or.inl rfl) rfl (hs.o rfl) rfl rfl (Nat.le_of_ble_eq_true rfl) (Nat.le_of_ble_eq_true rfl) rfl) rfl rfl rfl ?_
        refine qev.mono h (fun v _ _ _ h => ?_)
        obtain ⟨r7, rfl, h⟩ := h
        refine ⟨r7, rfl, ?_⟩
        refine e_if (¬ r7 = 0) (pc' := 37) rfl rfl e_d (fun hc => ?_) (fun hc => ?_)
        · replace h := h.2 hc
          refine e_next (pc' := 44) rfl rfl ?_
          refine e_next (pc' := 45) rfl rfl ?_
          refine e_icmp (¬ x1 = x2) (pc' := 48) rfl rfl e_d (fun hc => ?_) (fun hc => ?_)
          · replace h := h.2 hc
            refine e_next (pc' := 55) rfl rfl ?_
            refine e_ciV (pc' := 58) rfl (e_sV (as := []) (fun _ => rfl) (Or.inl rfl) rfl (hs.o rfl) rfl rfl (Nat.le_of_ble_eq_true rfl) (Nat.le_of_ble_eq_true rfl) rfl) rfl rfl ?_
            refine qev.mono h (fun v _ I5 _ h => ?_)
            obtain ⟨rfl, h⟩ := h
            refine ⟨rfl, ?_⟩
            refine e_iconst (pc' := 59) rfl rfl kc_0 ?_
            refine e_next (pc' := 60) (ls' := [_, _, _, _, _]) rfl rfl ?_
            exact h
          · replace h := h.1 (Decidable.not_not.mp hc)
            refine e_next (pc' := 49) rfl rfl ?_
            refine e_iconst (pc' := 50) rfl rfl kc_2 ?_
            refine e_ciI (pc' := 53) rfl (e_sV (as := [_]) (fun _ => rfl) (Or.inl rfl) rfl (hs.o rfl) rfl rfl (Nat.le_of_ble_eq_true rfl) (Nat.le_of_ble_eq_true rfl) rfl) rfl rfl ?_
            refine qev.mono h (fun v _ I6 _ h => ?_)
            obtain ⟨r8, rfl, h⟩ := h
            refine ⟨r8, rfl, ?_⟩
            exact e_iret rfl h
        · replace h := h.1 (Decidable.not_not.mp hc)
          refine e_next (pc' := 38) rfl rfl ?_
          refine e_iconst (pc' := 39) rfl rfl kc_0 ?_
          refine e_ciI (pc' := 42) rfl (e_sV (as := [_]) (fun _ => rfl) (Or.inl rfl) rfl (hs.o rfl) rfl rfl (Nat.le_of_ble_eq_true rfl) (Nat.le_of_ble_eq_true rfl) rfl) rfl rfl ?_
          refine qev.mono h (fun v _ I7 _ h => ?_)
          obtain ⟨r9, rfl, h⟩ := h
          refine ⟨r9, rfl, ?_⟩
          exact e_iret rfl h
theorem w229_60 {d : Nat} {i1 : Int32} {i2 : Int32} {i3 : Int32} {w4 : Value} {g : qG} {I : qI} {J : qJ} {Q : qQ} (hs : qSh g)  (h : (((nI 25) ≤ i3 → qC d 212 [.ref 105, .ref 111, .int (nI 3), .int i1] g I J (fun v _ I1 _ => v = none ∧ ∃ k1, ((nI 25) * i1) = nI k1 ∧ k1 < 381 ∧ Q (some (.int (I1 111 k1))) g I1 J)) ∧ (¬ (nI 25) ≤ i3 → ∃ k2, (((nI 25) * i1) + i3) = nI k2 ∧ k2 < 381 ∧ ∃ k3, (((nI 25) * i2) + i3) = nI k3 ∧ k3 < 381 ∧ ∃ k4, (((nI 25) * i1) + i3) = nI k4 ∧ k4 < 381 ∧ ∃ k5, (((nI 25) * i2) + i3) = nI k5 ∧ k5 < 381 ∧ qev (d + 1) 229 (60, [.ref 105, .int i1, .int i2, .int (i3 + (nI 1)), .int (I 111 k2)], [], g, (qw (qw I 111 k4 (I 111 k3)) 111 k5 (I 111 k2)), J) Q))) : qev (d + 1) 229 (60, [.ref 105, .int i1, .int i2, .int i3, w4], [], g, I, J) Q := by
  refine e_next (pc' := 61) rfl rfl ?_
  refine e_bipush (pc' := 63) rfl rfl kb_25 ?_
  refine e_icmp ((nI 25) ≤ i3) (pc' := 66) rfl rfl e_d (fun hc => ?_) (fun hc => ?_)
  · replace h := h.1 hc
    refine e_next (pc' := 121) rfl rfl ?_
    refine e_next (pc' := 122) rfl rfl ?_
    refine e_getR (pc' := 125) rfl rfl (hs.o rfl) (hs.a rfl) ?_
    refine e_iconst (pc' := 126) rfl rfl kc_3 ?_
    refine e_next (pc' := 127) rfl rfl ?_
    refine e_ciV (pc' := 130) rfl (e_sV (as := [_, _, _]) (fun _ => rfl) (Or.inl rfl) rfl (hs.o rfl) rfl rfl (Nat.le_of_ble_eq_true rfl) (Nat.le_of_ble_eq_true rfl) rfl) rfl rfl ?_
    refine qev.mono h (fun v _ I1 _ h => ?_)
    obtain ⟨rfl, h⟩ := h
    refine ⟨rfl, ?_⟩
    refine e_next (pc' := 131) rfl rfl ?_
    refine e_getR (pc' := 134) rfl rfl (hs.o rfl) (hs.a rfl) ?_
    refine e_bipush (pc' := 136) rfl rfl kb_25 ?_
    refine e_next (pc' := 137) rfl rfl ?_
    refine e_next (pc' := 138) rfl rfl ?_
    obtain ⟨k1, hi_k1, hj_k1, h⟩ := h
    refine e_iald k1 (pc' := 139) rfl rfl (hs.k rfl) hi_k1 hj_k1 (by decide) ?_
    exact e_iret rfl h
  · replace h := h.2 hc
    refine e_next (pc' := 67) rfl rfl ?_
    refine e_getR (pc' := 70) rfl rfl (hs.o rfl) (hs.a rfl) ?_
    refine e_bipush (pc' := 72) rfl rfl kb_25 ?_
    refine e_next (pc' := 73) rfl rfl ?_
    refine e_next (pc' := 74) rfl rfl ?_
    refine e_next (pc' := 75) rfl rfl ?_
    refine e_next (pc' := 76) rfl rfl ?_
    obtain ⟨k2, hi_k2, hj_k2, h⟩ := h
    refine e_iald k2 (pc' := 77) rfl rfl (hs.k rfl) hi_k2 hj_k2 (by decide) ?_
    refine e_next (pc' := 79) (ls' := [_, _, _, _, _]) rfl rfl ?_
    refine e_next (pc' := 80) rfl rfl ?_
    refine e_getR (pc' := 83) rfl rfl (hs.o rfl) (hs.a rfl) ?_
    refine e_bipush (pc' := 85) rfl rfl kb_25 ?_
    refine e_next (pc' := 86) rfl rfl ?_
    refine e_next (pc' := 87) rfl rfl ?_
    refine e_next (pc' := 88) rfl rfl ?_
    refine e_next (pc' := 89) rfl rfl ?_
    refine e_next (pc' := 90) rfl rfl ?_
    refine e_getR (pc' := 93) rfl rfl (hs.o rfl) (hs.a rfl) ?_
    refine e_bipush (pc' := 95) rfl rfl kb_25 ?_
    refine e_next (pc' := 96) rfl rfl ?_
    refine e_next (pc' := 97) rfl rfl ?_
    refine e_next (pc' := 98) rfl rfl ?_
    refine e_next (pc' := 99) rfl rfl ?_
    obtain ⟨k3, hi_k3, hj_k3, h⟩ := h
    refine e_iald k3 (pc' := 100) rfl rfl (hs.k rfl) hi_k3 hj_k3 (by decide) ?_
    obtain ⟨k4, hi_k4, hj_k4, h⟩ := h
    refine e_iast k4 (pc' := 101) rfl rfl (hs.k rfl) hi_k4 hj_k4 (by decide) ?_
    refine e_next (pc' := 102) rfl rfl ?_
    refine e_getR (pc' := 105) rfl rfl (hs.o rfl) (hs.a rfl) ?_
    refine e_bipush (pc' := 107) rfl rfl kb_25 ?_
    refine e_next (pc' := 108) rfl rfl ?_
    refine e_next (pc' := 109) rfl rfl ?_
    refine e_next (pc' := 110) rfl rfl ?_
    refine e_next (pc' := 111) rfl rfl ?_
    refine e_next (pc' := 113) rfl rfl ?_
    obtain ⟨k5, hi_k5, hj_k5, h⟩ := h
    refine e_iast k5 (pc' := 114) rfl rfl (hs.k rfl) hi_k5 hj_k5 (by decide) ?_
    refine e_iinc (pc' := 117) (ls' := [_, _, _, _, _]) (v := (nI 1)) rfl rfl kc_1 rfl rfl ?_
    refine e_next (pc' := 60) rfl rfl ?_
    exact h
theorem w230 {d : Nat} {x1 : Int32} {g : qG} {I : qI} {J : qJ} {Q : qQ} (hs : qSh g)  (h : qC d 147 [.long (Int32.toInt64 x1), .long (lN 0), .long (Int32.toInt64 ((I 105 13) - (nI 1)))] g I J (fun v _ _ _ => ∃ r1, v = some (.int r1) ∧ (r1 = 0 ∨ r1 = 1) ∧ Q (some (.int r1)) g I J)) : qC (d + 1) 230 [.ref 105, .int x1] g I J Q := by
  show qev (d + 1) 230 (0, [.ref 105, .int x1], [], g, I, J) Q
  refine e_next (pc' := 1) rfl rfl ?_
  refine e_next (pc' := 2) rfl rfl ?_
  refine e_lconst (pc' := 3) rfl rfl kl_0 ?_
  refine e_next (pc' := 4) rfl rfl ?_
  refine e_getI (pc' := 7) rfl (Or.inl rfl) rfl (hs.o rfl) ?_
  refine e_iconst (pc' := 8) rfl rfl kc_1 ?_
  refine e_next (pc' := 9) rfl rfl ?_
  refine e_next (pc' := 10) rfl rfl ?_
  refine e_cpI (pc' := 13) rfl (e_sS (as := [_, _, _]) (fun _ => rfl) rfl (Nat.le_of_ble_eq_true rfl) rfl rfl (Nat.le_of_ble_eq_true rfl) (Nat.le_of_ble_eq_true rfl) rfl) rfl rfl rfl ?_
  refine qev.mono h (fun v _ _ _ h => ?_)
  obtain ⟨r1, rfl, h⟩ := h
  refine ⟨r1, rfl, ?_⟩
  exact e_zret rfl h.1 h.2
theorem w231 {d : Nat} {x1 : Int32} {g : qG} {I : qI} {J : qJ} {Q : qQ} (hs : qSh g)  (h : qC d 177 [.ref 111, .int (nI 0), .ref 112, .int (nI 0)] g I J (fun v _ I1 _ => v = none ∧ qev (d + 1) 231 (20, [.ref 105, .int x1, .int (nI 0)], [], g, (qw I1 105 27 (-1)), J) Q)) : qC (d + 1) 231 [.ref 105, .int x1] g I J Q := by
  show qev (d + 1) 231 (0, [.ref 105, .int x1, qpad], [], g, I, J) Q
  refine e_next (pc' := 1) rfl rfl ?_
  refine e_getR (pc' := 4) rfl rfl (hs.o rfl) (hs.a rfl) ?_
  refine e_iconst (pc' := 5) rfl rfl kc_0 ?_
  refine e_next (pc' := 6) rfl rfl ?_
  refine e_getR (pc' := 9) rfl rfl (hs.o rfl) (hs.a rfl) ?_
  refine e_iconst (pc' := 10) rfl rfl kc_0 ?_
  refine e_ciV (pc' := 13) rfl (e_sS (as := [_, _, _, _]) (fun _ => rfl) rfl (Nat.le_of_ble_eq_true rfl) rfl rfl (Nat.le_of_ble_eq_true rfl) (Nat.le_of_ble_eq_true rfl) rfl) rfl rfl ?_
  refine qev.mono h (fun v _ I1 _ h => ?_)
  obtain ⟨rfl, h⟩ := h
  refine ⟨rfl, ?_⟩
  refine e_iconst (pc' := 14) rfl rfl kc_0 ?_
  refine e_next (pc' := 15) (ls' := [_, _, _]) rfl rfl ?_
  refine e_next (pc' := 16) rfl rfl ?_
  refine e_iconst (pc' := 17) rfl rfl kc_m1 ?_
  refine e_putI (pc' := 20) rfl rfl (hs.o rfl) ?_
  exact h
theorem w231_20 {d : Nat} {i1 : Int32} {i2 : Int32} {g : qG} {I : qI} {J : qJ} {Q : qQ} (hs : qSh g)  (h : ∃ k1, i1 = nI k1 ∧ k1 < 5 ∧ (((I 110 k1) ≤ i2 → Q (some (.int i2)) g I J) ∧ (¬ (I 110 k1) ≤ i2 → (((I 105 27) = (-1) → qC d 216 [.ref 105, .ref 112, .int (((nI 8) * i1) + i2)] g I J (fun v _ I1 _ => ∃ r1, v = some (.int r1) ∧ ((((qw I1 105 27 r1) 105 27) = (-1) → qev (d + 1) 231 (20, [.ref 105, .int i1, .int (i2 + (nI 1))], [], g, (qw I1 105 27 r1), J) Q) ∧ (¬ ((qw I1 105 27 r1) 105 27) = (-1) → qev (d + 1) 231 (20, [.ref 105, .int i1, .int i2], [], g, (qw I1 105 27 r1), J) Q)))) ∧ (¬ (I 105 27) = (-1) → Q (some (.int i2)) g I J))))) : qev (d + 1) 231 (20, [.ref 105, .int i1, .int i2], [], g, I, J) Q := by
  refine e_next (pc' := 21) rfl rfl ?_
  refine e_next (pc' := 22) rfl rfl ?_
  refine e_getR (pc' := 25) rfl rfl (hs.o rfl) (hs.a rfl) ?_
  refine e_next (pc' := 26) rfl rfl ?_
  obtain ⟨k1, hi_k1, hj_k1, h⟩ := h
  refine e_iald k1 (pc' := 27) rfl rfl (hs.k rfl) hi_k1 hj_k1 (by decide) ?_
  refine e_icmp ((I 110 k1) ≤ i2) (pc' := 30) rfl rfl e_d (fun hc => ?_) (fun hc => ?_)
  · replace h := h.1 hc
    refine e_next (pc' := 71) rfl rfl ?_
    exact e_iret rfl h
  · replace h := h.2 hc
    refine e_next (pc' := 31) rfl rfl ?_
    refine e_getI (pc' := 34) rfl (Or.inl rfl) rfl (hs.o rfl) ?_
    refine e_iconst (pc' := 35) rfl rfl kc_m1 ?_
    refine e_icmp (¬ (I 105 27) = (-1)) (pc' := 38) rfl rfl e_d (fun hc => ?_) (fun hc => ?_)
    · replace h := h.2 hc
      refine e_next (pc' := 71) rfl rfl ?_
      exact e_iret rfl h
    · replace h := h.1 (Decidable.not_not.mp hc)
      refine e_next (pc' := 39) rfl rfl ?_
      refine e_next (pc' := 40) rfl rfl ?_
      refine e_next (pc' := 41) rfl rfl ?_
      refine e_getR (pc' := 44) rfl rfl (hs.o rfl) (hs.a rfl) ?_
      refine e_bipush (pc' := 46) rfl rfl kb_8 ?_
      refine e_next (pc' := 47) rfl rfl ?_
      refine e_next (pc' := 48) rfl rfl ?_
      refine e_next (pc' := 49) rfl rfl ?_
      refine e_next (pc' := 50) rfl rfl ?_
      refine e_ciI (pc' := 53) rfl (e_sV (as := [_, _]) (fun _ => rfl) (Or.inl rfl) rfl (hs.o rfl) rfl rfl (Nat.le_of_ble_eq_true rfl) (Nat.le_of_ble_eq_true rfl) rfl) rfl rfl ?_
      refine qev.mono h (fun v _ I1 _ h => ?_)
      obtain ⟨r1, rfl, h⟩ := h
      refine ⟨r1, rfl, ?_⟩
      refine e_putI (pc' := 56) rfl rfl (hs.o rfl) ?_
      refine e_next (pc' := 57) rfl rfl ?_
      refine e_getI (pc' := 60) rfl (Or.inl rfl) rfl (hs.o rfl) ?_
      refine e_iconst (pc' := 61) rfl rfl kc_m1 ?_
      refine e_icmp (¬ ((qw I1 105 27 r1) 105 27) = (-1)) (pc' := 64) rfl rfl e_d (fun hc => ?_) (fun hc => ?_)
      · replace h := h.2 hc
        exact h
      · replace h := h.1 (Decidable.not_not.mp hc)
        refine e_iinc (pc' := 67) (ls' := [_, _, _]) (v := (nI 1)) rfl rfl kc_1 rfl rfl ?_
        refine e_next (pc' := 20) rfl rfl ?_
        exact h
theorem w232 {d : Nat} {x1 : Int32} {g : qG} {I : qI} {J : qJ} {Q : qQ} (hs : qSh g)  (h : ((((qw I 105 0 (nI 0)) 105 7) = 0 → qC d 213 [.ref 105, .int (nI 0)] g (qw I 105 0 (nI 0)) J (fun v _ I1 _ => ∃ r1, v = some (.int r1) ∧ Q (some (.int r1)) g I1 J)) ∧ (¬ ((qw I 105 0 (nI 0)) 105 7) = 0 → qC d 230 [.ref 105, .int x1] g (qw I 105 0 (nI 0)) J (fun v _ _ _ => ∃ r2, v = some (.int r2) ∧ ((r2 = 0 → qC d 213 [.ref 105, .int (nI 0)] g (qw I 105 0 (nI 0)) J (fun v _ I6 _ => ∃ r5, v = some (.int r5) ∧ Q (some (.int r5)) g I6 J)) ∧ (¬ r2 = 0 → qC d 231 [.ref 105, .int x1] g (qw I 105 0 (nI 0)) J (fun v _ I2 _ => ∃ r3, v = some (.int r3) ∧ (((I2 105 27) = (-1) → qC d 211 [.ref 105] g I2 J (fun v _ I3 _ => v = none ∧ qC d 177 [.ref 112, .int (nI 0), .ref 111, .int (nI 0)] g I3 J (fun v _ I4 _ => v = none ∧ Q (some (.int r3)) g I4 J))) ∧ (¬ (I2 105 27) = (-1) → qC d 213 [.ref 105, .int (I2 105 27)] g I2 J (fun v _ I5 _ => ∃ r4, v = some (.int r4) ∧ Q (some (.int r4)) g I5 J)))))))))) : qC (d + 1) 232 [.ref 105, .int x1] g I J Q := by
  show qev (d + 1) 232 (0, [.ref 105, .int x1, qpad], [], g, I, J) Q
  refine e_next (pc' := 1) rfl rfl ?_
  refine e_iconst (pc' := 2) rfl rfl kc_0 ?_
  refine e_putI (pc' := 5) rfl rfl (hs.o rfl) ?_
  refine e_next (pc' := 6) rfl rfl ?_
  refine e_getI (pc' := 9) rfl (Or.inl rfl) rfl (hs.o rfl) ?_
  refine e_if (((qw I 105 0 (nI 0)) 105 7) = 0) (pc' := 12) rfl rfl e_d (fun hc => ?_) (fun hc => ?_)
  · replace h := h.1 hc
    refine e_next (pc' := 21) rfl rfl ?_
    refine e_iconst (pc' := 22) rfl rfl kc_0 ?_
    refine e_ciI (pc' := 25) rfl (e_sV (as := [_]) (fun _ => rfl) (Or.inl rfl) rfl (hs.o rfl) rfl rfl (Nat.le_of_ble_eq_true rfl) (Nat.le_of_ble_eq_true rfl) rfl) rfl rfl ?_
    refine qev.mono h (fun v _ I1 _ h => ?_)
    obtain ⟨r1, rfl, h⟩ := h
    refine ⟨r1, rfl, ?_⟩
    exact e_iret rfl h
  · replace h := h.2 hc
    refine e_next (pc' := 13) rfl rfl ?_
    refine e_next (pc' := 14) rfl rfl ?_
    refine e_cpI (pc' := 17) rfl (e_sV (as := [_]) (fun _ => rfl) (Or.inl rfl) rfl (hs.o rfl) rfl rfl (Nat.le_of_ble_eq_true rfl) (Nat.le_of_ble_eq_true rfl) rfl) rfl rfl rfl ?_
    refine qev.mono h (fun v _ _ _ h => ?_)
    obtain ⟨r2, rfl, h⟩ := h
    refine ⟨r2, rfl, ?_⟩
    refine e_if (¬ r2 = 0) (pc' := 20) rfl rfl e_d (fun hc => ?_) (fun hc => ?_)
    · replace h := h.2 hc
      refine e_next (pc' := 27) rfl rfl ?_
      refine e_next (pc' := 28) rfl rfl ?_
      refine e_ciI (pc' := 31) rfl (e_sV (as := [_]) (fun _ => rfl) (Or.inl rfl) rfl (hs.o rfl) rfl rfl (Nat.le_of_ble_eq_true rfl) (Nat.le_of_ble_eq_true rfl) rfl) rfl rfl ?_
      refine qev.mono h (fun v _ I2 _ h => ?_)
      obtain ⟨r3, rfl, h⟩ := h
      refine ⟨r3, rfl, ?_⟩
      refine e_next (pc' := 32) (ls' := [_, _, _]) rfl rfl ?_
      refine e_next (pc' := 33) rfl rfl ?_
      refine e_getI (pc' := 36) rfl (Or.inl rfl) rfl (hs.o rfl) ?_
      refine e_iconst (pc' := 37) rfl rfl kc_m1 ?_
      refine e_icmp ((I2 105 27) = (-1)) (pc' := 40) rfl rfl e_d (fun hc => ?_) (fun hc => ?_)
      · replace h := h.1 hc
        refine e_next (pc' := 50) rfl rfl ?_
        refine e_ciV (pc' := 53) rfl (e_sV (as := []) (fun _ => rfl) (Or.inl rfl) rfl (hs.o rfl) rfl rfl (Nat.le_of_ble_eq_true rfl) (Nat.le_of_ble_eq_true rfl) rfl) rfl rfl ?_
        refine qev.mono h (fun v _ I3 _ h => ?_)
        obtain ⟨rfl, h⟩ := h
        refine ⟨rfl, ?_⟩
        refine e_next (pc' := 54) rfl rfl ?_
        refine e_getR (pc' := 57) rfl rfl (hs.o rfl) (hs.a rfl) ?_
        refine e_iconst (pc' := 58) rfl rfl kc_0 ?_
        refine e_next (pc' := 59) rfl rfl ?_
        refine e_getR (pc' := 62) rfl rfl (hs.o rfl) (hs.a rfl) ?_
        refine e_iconst (pc' := 63) rfl rfl kc_0 ?_
        refine e_ciV (pc' := 66) rfl (e_sS (as := [_, _, _, _]) (fun _ => rfl) rfl (Nat.le_of_ble_eq_true rfl) rfl rfl (Nat.le_of_ble_eq_true rfl) (Nat.le_of_ble_eq_true rfl) rfl) rfl rfl ?_
        refine qev.mono h (fun v _ I4 _ h => ?_)
        obtain ⟨rfl, h⟩ := h
        refine ⟨rfl, ?_⟩
        refine e_next (pc' := 67) rfl rfl ?_
        exact e_iret rfl h
      · replace h := h.2 hc
        refine e_next (pc' := 41) rfl rfl ?_
        refine e_next (pc' := 42) rfl rfl ?_
        refine e_getI (pc' := 45) rfl (Or.inl rfl) rfl (hs.o rfl) ?_
        refine e_ciI (pc' := 48) rfl (e_sV (as := [_]) (fun _ => rfl) (Or.inl rfl) rfl (hs.o rfl) rfl rfl (Nat.le_of_ble_eq_true rfl) (Nat.le_of_ble_eq_true rfl) rfl) rfl rfl ?_
        refine qev.mono h (fun v _ I5 _ h => ?_)
        obtain ⟨r4, rfl, h⟩ := h
        refine ⟨r4, rfl, ?_⟩
        exact e_iret rfl h
    · replace h := h.1 (Decidable.not_not.mp hc)
      refine e_next (pc' := 21) rfl rfl ?_
      refine e_iconst (pc' := 22) rfl rfl kc_0 ?_
      refine e_ciI (pc' := 25) rfl (e_sV (as := [_]) (fun _ => rfl) (Or.inl rfl) rfl (hs.o rfl) rfl rfl (Nat.le_of_ble_eq_true rfl) (Nat.le_of_ble_eq_true rfl) rfl) rfl rfl ?_
      refine qev.mono h (fun v _ I6 _ h => ?_)
      obtain ⟨r5, rfl, h⟩ := h
      refine ⟨r5, rfl, ?_⟩
      exact e_iret rfl h
theorem w233 {d : Nat} {x1 : Int32} {x2 : Int32} {g : qG} {I : qI} {J : qJ} {Q : qQ} (hs : qSh g)  (h : ((((qw I 105 0 (nI 0)) 105 7) = 0 → Q (some (.int (-1000000))) g (qw I 105 0 (nI 0)) J) ∧ (¬ ((qw I 105 0 (nI 0)) 105 7) = 0 → qC d 230 [.ref 105, .int x1] g (qw I 105 0 (nI 0)) J (fun v _ _ _ => ∃ r1, v = some (.int r1) ∧ ((r1 = 0 → Q (some (.int (-1000000))) g (qw I 105 0 (nI 0)) J) ∧ (¬ r1 = 0 → qC d 147 [.long (Int32.toInt64 x2), .long (lN 0), .long (lN 2)] g (qw I 105 0 (nI 0)) J (fun v _ _ _ => ∃ r2, v = some (.int r2) ∧ ((r2 = 0 → Q (some (.int (-1000000))) g (qw I 105 0 (nI 0)) J) ∧ (¬ r2 = 0 → qC d 231 [.ref 105, .int x1] g (qw I 105 0 (nI 0)) J (fun v _ I1 _ => ∃ r3, v = some (.int r3) ∧ ((x2 = 0 → (((I1 105 27) = (-1) → Q (some (.int (-1))) g I1 J) ∧ (¬ (I1 105 27) = (-1) → Q (some (.int r3)) g I1 J))) ∧ (¬ x2 = 0 → ((x2 = (nI 1) → Q (some (.int (I1 105 27))) g I1 J) ∧ (¬ x2 = (nI 1) → (((I1 105 27) = (-1) → ∃ k1, ((((nI 8) * x1) + r3) - (nI 1)) = nI k1 ∧ k1 < 41 ∧ ∃ k2, ((nI 25) * (I1 107 k1)) = nI k2 ∧ k2 < 381 ∧ Q (some (.int (I1 112 k2))) g I1 J) ∧ (¬ (I1 105 27) = (-1) → Q (some (.int (-1))) g I1 J)))))))))))))))) : qC (d + 1) 233 [.ref 105, .int x1, .int x2] g I J Q := by
  show qev (d + 1) 233 (0, [.ref 105, .int x1, .int x2, qpad], [], g, I, J) Q
  refine e_next (pc' := 1) rfl rfl ?_
  refine e_iconst (pc' := 2) rfl rfl kc_0 ?_
  refine e_putI (pc' := 5) rfl rfl (hs.o rfl) ?_
  refine e_next (pc' := 6) rfl rfl ?_
  refine e_getI (pc' := 9) rfl (Or.inl rfl) rfl (hs.o rfl) ?_
  refine e_if (((qw I 105 0 (nI 0)) 105 7) = 0) (pc' := 12) rfl rfl e_d (fun hc => ?_) (fun hc => ?_)
  · replace h := h.1 hc
    refine e_ldcw (pc' := 35) rfl rfl kn_4293967296 ?_
    exact e_iret rfl h
  · replace h := h.2 hc
    refine e_next (pc' := 13) rfl rfl ?_
    refine e_next (pc' := 14) rfl rfl ?_
    refine e_cpI (pc' := 17) rfl (e_sV (as := [_]) (fun _ => rfl) (Or.inl rfl) rfl (hs.o rfl) rfl rfl (Nat.le_of_ble_eq_true rfl) (Nat.le_of_ble_eq_true rfl) rfl) rfl rfl rfl ?_
    refine qev.mono h (fun v _ _ _ h => ?_)
    obtain ⟨r1, rfl, h⟩ := h
    refine ⟨r1, rfl, ?_⟩
    refine e_if (r1 = 0) (pc' := 20) rfl rfl e_d (fun hc => ?_) (fun hc => ?_)
    · replace h := h.1 hc
      refine e_ldcw (pc' := 35) rfl rfl kn_4293967296 ?_
      exact e_iret rfl h
    · replace h := h.2 hc
      refine e_next (pc' := 21) rfl rfl ?_
      refine e_next (pc' := 22) rfl rfl ?_
      refine e_lconst (pc' := 23) rfl rfl kl_0 ?_
      refine e_ldc2 (pc' := 26) rfl rfl kN_2 ?_
      refine e_cpI (pc' := 29) rfl (e_sS (as := [_, _, _]) (fun _ => rfl) rfl (Nat.le_of_ble_eq_true rfl) rfl rfl (Nat.le_of_ble_eq_true rfl) (Nat.le_of_ble_eq_true rfl) rfl) rfl rfl rfl ?_
      refine qev.mono h (fun v _ _ _ h => ?_)
      obtain ⟨r2, rfl, h⟩ := h
      refine ⟨r2, rfl, ?_⟩
      refine e_if (¬ r2 = 0) (pc' := 32) rfl rfl e_d (fun hc => ?_) (fun hc => ?_)
      · replace h := h.2 hc
        refine e_next (pc' := 37) rfl rfl ?_
        refine e_next (pc' := 38) rfl rfl ?_
        refine e_ciI (pc' := 41) rfl (e_sV (as := [_]) (fun _ => rfl) (Or.inl rfl) rfl (hs.o rfl) rfl rfl (Nat.le_of_ble_eq_true rfl) (Nat.le_of_ble_eq_true rfl) rfl) rfl rfl ?_
        refine qev.mono h (fun v _ I1 _ h => ?_)
        obtain ⟨r3, rfl, h⟩ := h
        refine ⟨r3, rfl, ?_⟩
        refine e_next (pc' := 42) (ls' := [_, _, _, _]) rfl rfl ?_
        refine e_next (pc' := 43) rfl rfl ?_
        refine e_if (¬ x2 = 0) (pc' := 46) rfl rfl e_d (fun hc => ?_) (fun hc => ?_)
        · replace h := h.2 hc
          refine e_next (pc' := 61) rfl rfl ?_
          refine e_iconst (pc' := 62) rfl rfl kc_1 ?_
          refine e_icmp (¬ x2 = (nI 1)) (pc' := 65) rfl rfl e_d (fun hc => ?_) (fun hc => ?_)
          · replace h := h.2 hc
            refine e_next (pc' := 71) rfl rfl ?_
            refine e_getI (pc' := 74) rfl (Or.inl rfl) rfl (hs.o rfl) ?_
            refine e_iconst (pc' := 75) rfl rfl kc_m1 ?_
            refine e_icmp (¬ (I1 105 27) = (-1)) (pc' := 78) rfl rfl e_d (fun hc => ?_) (fun hc => ?_)
            · replace h := h.2 hc
              refine e_iconst (pc' := 103) rfl rfl kc_m1 ?_
              exact e_iret rfl h
            · replace h := h.1 (Decidable.not_not.mp hc)
              refine e_next (pc' := 79) rfl rfl ?_
              refine e_getR (pc' := 82) rfl rfl (hs.o rfl) (hs.a rfl) ?_
              refine e_bipush (pc' := 84) rfl rfl kb_25 ?_
              refine e_next (pc' := 85) rfl rfl ?_
              refine e_getR (pc' := 88) rfl rfl (hs.o rfl) (hs.a rfl) ?_
              refine e_bipush (pc' := 90) rfl rfl kb_8 ?_
              refine e_next (pc' := 91) rfl rfl ?_
              refine e_next (pc' := 92) rfl rfl ?_
              refine e_next (pc' := 93) rfl rfl ?_
              refine e_next (pc' := 94) rfl rfl ?_
              refine e_iconst (pc' := 95) rfl rfl kc_1 ?_
              refine e_next (pc' := 96) rfl rfl ?_
              obtain ⟨k1, hi_k1, hj_k1, h⟩ := h
              refine e_iald k1 (pc' := 97) rfl rfl (hs.k rfl) hi_k1 hj_k1 (by decide) ?_
              refine e_next (pc' := 98) rfl rfl ?_
              obtain ⟨k2, hi_k2, hj_k2, h⟩ := h
              refine e_iald k2 (pc' := 99) rfl rfl (hs.k rfl) hi_k2 hj_k2 (by decide) ?_
              refine e_next (pc' := 103) rfl rfl ?_
              exact e_iret rfl h
          · replace h := h.1 (Decidable.not_not.mp hc)
            refine e_next (pc' := 66) rfl rfl ?_
            refine e_getI (pc' := 69) rfl (Or.inl rfl) rfl (hs.o rfl) ?_
            exact e_iret rfl h
        · replace h := h.1 (Decidable.not_not.mp hc)
          refine e_next (pc' := 47) rfl rfl ?_
          refine e_getI (pc' := 50) rfl (Or.inl rfl) rfl (hs.o rfl) ?_
          refine e_iconst (pc' := 51) rfl rfl kc_m1 ?_
          refine e_icmp (¬ (I1 105 27) = (-1)) (pc' := 54) rfl rfl e_d (fun hc => ?_) (fun hc => ?_)
          · replace h := h.2 hc
            refine e_next (pc' := 59) rfl rfl ?_
            exact e_iret rfl h
          · replace h := h.1 (Decidable.not_not.mp hc)
            refine e_iconst (pc' := 55) rfl rfl kc_m1 ?_
            refine e_next (pc' := 59) rfl rfl ?_
            exact e_iret rfl h
      · replace h := h.1 (Decidable.not_not.mp hc)
        refine e_ldcw (pc' := 35) rfl rfl kn_4293967296 ?_
        exact e_iret rfl h
theorem w234 {d : Nat} {x1 : Int32} {x2 : Int32} {g : qG} {I : qI} {J : qJ} {Q : qQ} (hs : qSh g)  (h : qC d 230 [.ref 105, .int x1] g (qw I 105 0 (nI 0)) J (fun v _ _ _ => ∃ r1, v = some (.int r1) ∧ ((r1 = 0 → Q (some (.int (-1))) g (qw I 105 0 (nI 0)) J) ∧ (¬ r1 = 0 → ((x2 = (-1) → ∃ k3, x1 = nI k3 ∧ k3 < 5 ∧ Q (some (.int ((qw I 105 0 (nI 0)) 110 k3))) g (qw I 105 0 (nI 0)) J) ∧ (¬ x2 = (-1) → ∃ k1, x1 = nI k1 ∧ k1 < 5 ∧ qC d 147 [.long (Int32.toInt64 x2), .long (lN 0), .long (Int32.toInt64 (((qw I 105 0 (nI 0)) 110 k1) - (nI 1)))] g (qw I 105 0 (nI 0)) J (fun v _ _ _ => ∃ r2, v = some (.int r2) ∧ ((r2 = 0 → Q (some (.int (-1))) g (qw I 105 0 (nI 0)) J) ∧ (¬ r2 = 0 → ∃ k2, (((nI 8) * x1) + x2) = nI k2 ∧ k2 < 41 ∧ Q (some (.int ((qw I 105 0 (nI 0)) 107 k2))) g (qw I 105 0 (nI 0)) J))))))))) : qC (d + 1) 234 [.ref 105, .int x1, .int x2] g I J Q := by
  show qev (d + 1) 234 (0, [.ref 105, .int x1, .int x2], [], g, I, J) Q
  refine e_next (pc' := 1) rfl rfl ?_
  refine e_iconst (pc' := 2) rfl rfl kc_0 ?_
  refine e_putI (pc' := 5) rfl rfl (hs.o rfl) ?_
  refine e_next (pc' := 6) rfl rfl ?_
  refine e_next (pc' := 7) rfl rfl ?_
  refine e_cpI (pc' := 10) rfl (e_sV (as := [_]) (fun _ => rfl) (Or.inl rfl) rfl (hs.o rfl) rfl rfl (Nat.le_of_ble_eq_true rfl) (Nat.le_of_ble_eq_true rfl) rfl) rfl rfl rfl ?_
  refine qev.mono h (fun v _ _ _ h => ?_)
  obtain ⟨r1, rfl, h⟩ := h
  refine ⟨r1, rfl, ?_⟩
  refine e_if (¬ r1 = 0) (pc' := 13) rfl rfl e_d (fun hc => ?_) (fun hc => ?_)
  · replace h := h.2 hc
    refine e_next (pc' := 16) rfl rfl ?_
    refine e_iconst (pc' := 17) rfl rfl kc_m1 ?_
    refine e_icmp (¬ x2 = (-1)) (pc' := 20) rfl rfl e_d (fun hc => ?_) (fun hc => ?_)
    · replace h := h.2 hc
      refine e_next (pc' := 30) rfl rfl ?_
      refine e_next (pc' := 31) rfl rfl ?_
      refine e_lconst (pc' := 32) rfl rfl kl_0 ?_
      refine e_next (pc' := 33) rfl rfl ?_
      refine e_getR (pc' := 36) rfl rfl (hs.o rfl) (hs.a rfl) ?_
      refine e_next (pc' := 37) rfl rfl ?_
      obtain ⟨k1, hi_k1, hj_k1, h⟩ := h
      refine e_iald k1 (pc' := 38) rfl rfl (hs.k rfl) hi_k1 hj_k1 (by decide) ?_
      refine e_iconst (pc' := 39) rfl rfl kc_1 ?_
      refine e_next (pc' := 40) rfl rfl ?_
      refine e_next (pc' := 41) rfl rfl ?_
      refine e_cpI (pc' := 44) rfl (e_sS (as := [_, _, _]) (fun _ => rfl) rfl (Nat.le_of_ble_eq_true rfl) rfl rfl (Nat.le_of_ble_eq_true rfl) (Nat.le_of_ble_eq_true rfl) rfl) rfl rfl rfl ?_
      refine qev.mono h (fun v _ _ _ h => ?_)
      obtain ⟨r2, rfl, h⟩ := h
      refine ⟨r2, rfl, ?_⟩
      refine e_if (r2 = 0) (pc' := 47) rfl rfl e_d (fun hc => ?_) (fun hc => ?_)
      · replace h := h.1 hc
        refine e_iconst (pc' := 62) rfl rfl kc_m1 ?_
        exact e_iret rfl h
      · replace h := h.2 hc
        refine e_next (pc' := 48) rfl rfl ?_
        refine e_getR (pc' := 51) rfl rfl (hs.o rfl) (hs.a rfl) ?_
        refine e_bipush (pc' := 53) rfl rfl kb_8 ?_
        refine e_next (pc' := 54) rfl rfl ?_
        refine e_next (pc' := 55) rfl rfl ?_
        refine e_next (pc' := 56) rfl rfl ?_
        refine e_next (pc' := 57) rfl rfl ?_
        obtain ⟨k2, hi_k2, hj_k2, h⟩ := h
        refine e_iald k2 (pc' := 58) rfl rfl (hs.k rfl) hi_k2 hj_k2 (by decide) ?_
        refine e_next (pc' := 62) rfl rfl ?_
        exact e_iret rfl h
    · replace h := h.1 (Decidable.not_not.mp hc)
      refine e_next (pc' := 21) rfl rfl ?_
      refine e_getR (pc' := 24) rfl rfl (hs.o rfl) (hs.a rfl) ?_
      refine e_next (pc' := 25) rfl rfl ?_
      obtain ⟨k3, hi_k3, hj_k3, h⟩ := h
      refine e_iald k3 (pc' := 26) rfl rfl (hs.k rfl) hi_k3 hj_k3 (by decide) ?_
      refine e_next (pc' := 62) rfl rfl ?_
      exact e_iret rfl h
  · replace h := h.1 (Decidable.not_not.mp hc)
    refine e_iconst (pc' := 14) rfl rfl kc_m1 ?_
    exact e_iret rfl h
theorem w235 {d : Nat} {x1 : Int32} {g : qG} {I : qI} {J : qJ} {Q : qQ} (hs : qSh g)  (h : ¬ (Int32.toInt64 x1) = 0 ∧ Q (some (.int (Int64.toInt32 (qremL (qushrL ((qw J 105 28 (((J 105 28) * (lN 6364136223846793005)) + (lN 1442695040888963407))) 105 28) (nI 33)) (Int32.toInt64 x1))))) g I (qw J 105 28 (((J 105 28) * (lN 6364136223846793005)) + (lN 1442695040888963407)))) : qC d 235 [.ref 105, .int x1] g I J Q := by
  show qev d 235 (0, [.ref 105, .int x1], [], g, I, J) Q
  refine e_next (pc' := 1) rfl rfl ?_
  refine e_next (pc' := 2) rfl rfl ?_
  refine e_getJ (pc' := 5) rfl rfl (hs.o rfl) ?_
  refine e_ldc2 (pc' := 8) rfl rfl kN_6364136223846793005 ?_
  refine e_next (pc' := 9) rfl rfl ?_
  refine e_ldc2 (pc' := 12) rfl rfl kN_1442695040888963407 ?_
  refine e_next (pc' := 13) rfl rfl ?_
  refine e_putJ (pc' := 16) rfl rfl (hs.o rfl) ?_
  refine e_next (pc' := 17) rfl rfl ?_
  refine e_getJ (pc' := 20) rfl rfl (hs.o rfl) ?_
  refine e_bipush (pc' := 22) rfl rfl kb_33 ?_
  refine e_next (pc' := 23) rfl rfl ?_
  refine e_next (pc' := 24) rfl rfl ?_
  refine e_next (pc' := 25) rfl rfl ?_
  obtain ⟨hz1, h⟩ := h
  refine e_lrem (pc' := 26) rfl rfl hz1 ?_
  refine e_next (pc' := 27) rfl rfl ?_
  exact e_iret rfl h
theorem w236 {d : Nat}  {g : qG} {I : qI} {J : qJ} {Q : qQ} (hs : qSh g)  (h : ∃ k1, ((qw I 105 14 (nI 40)) 105 14) = nI k1 ∧ k1 < 41 ∧ qC d 235 [.ref 105, .int (nI 8)] g (qw (qw I 105 14 (nI 40)) 108 k1 (nI 0)) J (fun v _ I1 J1 => ∃ r1, v = some (.int r1) ∧ ∃ k2, ((qw (qw I 105 14 (nI 40)) 108 k1 (nI 0)) 105 14) = nI k2 ∧ k2 < 41 ∧ qC d 235 [.ref 105, .int (nI 6)] g (qw I1 107 k2 r1) J1 (fun v _ I2 J2 => ∃ r2, v = some (.int r2) ∧ ((r2 = 0 → qC d 235 [.ref 105, .int (I2 105 7)] g I2 J2 (fun v _ I12 J7 => ∃ r7, v = some (.int r7) ∧ qC d 162 [.ref 105, .int (nI 0), .int r7] g I12 J7 (fun v _ I13 _ => v = none ∧ qC d 235 [.ref 105, .int (I13 105 7)] g I13 J7 (fun v _ I14 J8 => ∃ r8, v = some (.int r8) ∧ qC d 162 [.ref 105, .int (nI 0), .int r8] g I14 J8 (fun v _ I15 _ => v = none ∧ qC d 162 [.ref 105, .int (nI 1), .int (nI 0)] g I15 J8 (fun v _ I16 _ => v = none ∧ qC d 162 [.ref 105, .int (nI 5), .int (nI 0)] g I16 J8 (fun v _ I17 _ => v = none ∧ qC d 162 [.ref 105, .int (nI 3), .int (nI 0)] g I17 J8 (fun v _ I18 _ => v = none ∧ Q none g I18 J8)))))))) ∧ (¬ r2 = 0 → ((r2 = (nI 4) → qC d 162 [.ref 105, .int (nI 0), .int (nI 1)] g I2 J2 (fun v _ I7 _ => v = none ∧ qC d 235 [.ref 105, .int (nI 8)] g I7 J2 (fun v _ I8 J5 => ∃ r5, v = some (.int r5) ∧ qC d 162 [.ref 105, .int (nI 2), .int r5] g I8 J5 (fun v _ I9 _ => v = none ∧ (((nI 3) ≤ r2 → qev (d + 1) 236 (125, [.ref 105, .int r2], [], g, I9, J5) Q) ∧ (¬ (nI 3) ≤ r2 → qC d 235 [.ref 105, .int (nI 8)] g I9 J5 (fun v _ I10 J6 => ∃ r6, v = some (.int r6) ∧ qC d 162 [.ref 105, .int (nI 2), .int r6] g I10 J6 (fun v _ I11 _ => v = none ∧ qev (d + 1) 236 (125, [.ref 105, .int r2], [], g, I11, J6) Q)))))))) ∧ (¬ r2 = (nI 4) → qC d 235 [.ref 105, .int (nI 8)] g I2 J2 (fun v _ I3 J3 => ∃ r3, v = some (.int r3) ∧ qC d 162 [.ref 105, .int (nI 2), .int r3] g I3 J3 (fun v _ I4 _ => v = none ∧ (((nI 3) ≤ r2 → qev (d + 1) 236 (125, [.ref 105, .int r2], [], g, I4, J3) Q) ∧ (¬ (nI 3) ≤ r2 → qC d 235 [.ref 105, .int (nI 8)] g I4 J3 (fun v _ I5 J4 => ∃ r4, v = some (.int r4) ∧ qC d 162 [.ref 105, .int (nI 2), .int r4] g I5 J4 (fun v _ I6 _ => v = none ∧ qev (d + 1) 236 (125, [.ref 105, .int r2], [], g, I6, J4) Q))))))))))))) : qC (d + 1) 236 [.ref 105] g I J Q := by
  show qev (d + 1) 236 (0, [.ref 105, qpad], [], g, I, J) Q
  refine e_next (pc' := 1) rfl rfl ?_
  refine e_bipush (pc' := 3) rfl rfl kb_40 ?_
  refine e_putI (pc' := 6) rfl rfl (hs.o rfl) ?_
  refine e_next (pc' := 7) rfl rfl ?_
  refine e_getR (pc' := 10) rfl rfl (hs.o rfl) (hs.a rfl) ?_
  refine e_next (pc' := 11) rfl rfl ?_
  refine e_getI (pc' := 14) rfl (Or.inl rfl) rfl (hs.o rfl) ?_
  refine e_iconst (pc' := 15) rfl rfl kc_0 ?_
  obtain ⟨k1, hi_k1, hj_k1, h⟩ := h
  refine e_iast k1 (pc' := 16) rfl rfl (hs.k rfl) hi_k1 hj_k1 (by decide) ?_
  refine e_next (pc' := 17) rfl rfl ?_
  refine e_getR (pc' := 20) rfl rfl (hs.o rfl) (hs.a rfl) ?_
  refine e_next (pc' := 21) rfl rfl ?_
  refine e_getI (pc' := 24) rfl (Or.inl rfl) rfl (hs.o rfl) ?_
  refine e_next (pc' := 25) rfl rfl ?_
  refine e_bipush (pc' := 27) rfl rfl kb_8 ?_
  refine e_cjI (pc' := 30) rfl (e_sV (as := [_]) (fun _ => rfl) (Or.inl rfl) rfl (hs.o rfl) rfl rfl (Nat.le_of_ble_eq_true rfl) (Nat.le_of_ble_eq_true rfl) rfl) rfl ?_
  refine qev.mono h (fun v _ I1 J1 h => ?_)
  obtain ⟨r1, rfl, h⟩ := h
  refine ⟨r1, rfl, ?_⟩
  obtain ⟨k2, hi_k2, hj_k2, h⟩ := h
  refine e_iast k2 (pc' := 31) rfl rfl (hs.k rfl) hi_k2 hj_k2 (by decide) ?_
  refine e_next (pc' := 32) rfl rfl ?_
  refine e_bipush (pc' := 34) rfl rfl kb_6 ?_
  refine e_cjI (pc' := 37) rfl (e_sV (as := [_]) (fun _ => rfl) (Or.inl rfl) rfl (hs.o rfl) rfl rfl (Nat.le_of_ble_eq_true rfl) (Nat.le_of_ble_eq_true rfl) rfl) rfl ?_
  refine qev.mono h (fun v _ I2 J2 h => ?_)
  obtain ⟨r2, rfl, h⟩ := h
  refine ⟨r2, rfl, ?_⟩
  refine e_next (pc' := 38) (ls' := [_, _]) rfl rfl ?_
  refine e_next (pc' := 39) rfl rfl ?_
  refine e_if (¬ r2 = 0) (pc' := 42) rfl rfl e_d (fun hc => ?_) (fun hc => ?_)
  · replace h := h.2 hc
    refine e_next (pc' := 88) rfl rfl ?_
    refine e_iconst (pc' := 89) rfl rfl kc_4 ?_
    refine e_icmp (¬ r2 = (nI 4)) (pc' := 92) rfl rfl e_d (fun hc => ?_) (fun hc => ?_)
    · replace h := h.2 hc
      refine e_next (pc' := 99) rfl rfl ?_
      refine e_iconst (pc' := 100) rfl rfl kc_2 ?_
      refine e_next (pc' := 101) rfl rfl ?_
      refine e_bipush (pc' := 103) rfl rfl kb_8 ?_
      refine e_cjI (pc' := 106) rfl (e_sV (as := [_]) (fun _ => rfl) (Or.inl rfl) rfl (hs.o rfl) rfl rfl (Nat.le_of_ble_eq_true rfl) (Nat.le_of_ble_eq_true rfl) rfl) rfl ?_
      refine qev.mono h (fun v _ I3 J3 h => ?_)
      obtain ⟨r3, rfl, h⟩ := h
      refine ⟨r3, rfl, ?_⟩
      refine e_ciV (pc' := 109) rfl (e_sV (as := [_, _]) (fun _ => rfl) (Or.inl rfl) rfl (hs.o rfl) rfl rfl (Nat.le_of_ble_eq_true rfl) (Nat.le_of_ble_eq_true rfl) rfl) rfl rfl ?_
      refine qev.mono h (fun v _ I4 _ h => ?_)
      obtain ⟨rfl, h⟩ := h
      refine ⟨rfl, ?_⟩
      refine e_next (pc' := 110) rfl rfl ?_
      refine e_iconst (pc' := 111) rfl rfl kc_3 ?_
      refine e_icmp ((nI 3) ≤ r2) (pc' := 114) rfl rfl e_d (fun hc => ?_) (fun hc => ?_)
      · replace h := h.1 hc
        exact h
      · replace h := h.2 hc
        refine e_next (pc' := 115) rfl rfl ?_
        refine e_iconst (pc' := 116) rfl rfl kc_2 ?_
        refine e_next (pc' := 117) rfl rfl ?_
        refine e_bipush (pc' := 119) rfl rfl kb_8 ?_
        refine e_cjI (pc' := 122) rfl (e_sV (as := [_]) (fun _ => rfl) (Or.inl rfl) rfl (hs.o rfl) rfl rfl (Nat.le_of_ble_eq_true rfl) (Nat.le_of_ble_eq_true rfl) rfl) rfl ?_
        refine qev.mono h (fun v _ I5 J4 h => ?_)
        obtain ⟨r4, rfl, h⟩ := h
        refine ⟨r4, rfl, ?_⟩
        refine e_ciV (pc' := 125) rfl (e_sV (as := [_, _]) (fun _ => rfl) (Or.inl rfl) rfl (hs.o rfl) rfl rfl (Nat.le_of_ble_eq_true rfl) (Nat.le_of_ble_eq_true rfl) rfl) rfl rfl ?_
        refine qev.mono h (fun v _ I6 _ h => ?_)
        obtain ⟨rfl, h⟩ := h
        refine ⟨rfl, ?_⟩
        exact h
    · replace h := h.1 (Decidable.not_not.mp hc)
      refine e_next (pc' := 93) rfl rfl ?_
      refine e_iconst (pc' := 94) rfl rfl kc_0 ?_
      refine e_iconst (pc' := 95) rfl rfl kc_1 ?_
      refine e_ciV (pc' := 98) rfl (e_sV (as := [_, _]) (fun _ => rfl) (Or.inl rfl) rfl (hs.o rfl) rfl rfl (Nat.le_of_ble_eq_true rfl) (Nat.le_of_ble_eq_true rfl) rfl) rfl rfl ?_
      refine qev.mono h (fun v _ I7 _ h => ?_)
      obtain ⟨rfl, h⟩ := h
      refine ⟨rfl, ?_⟩
      refine e_next (pc' := 99) rfl rfl ?_
      refine e_iconst (pc' := 100) rfl rfl kc_2 ?_
      refine e_next (pc' := 101) rfl rfl ?_
      refine e_bipush (pc' := 103) rfl rfl kb_8 ?_
      refine e_cjI (pc' := 106) rfl (e_sV (as := [_]) (fun _ => rfl) (Or.inl rfl) rfl (hs.o rfl) rfl rfl (Nat.le_of_ble_eq_true rfl) (Nat.le_of_ble_eq_true rfl) rfl) rfl ?_
      refine qev.mono h (fun v _ I8 J5 h => ?_)
      obtain ⟨r5, rfl, h⟩ := h
      refine ⟨r5, rfl, ?_⟩
      refine e_ciV (pc' := 109) rfl (e_sV (as := [_, _]) (fun _ => rfl) (Or.inl rfl) rfl (hs.o rfl) rfl rfl (Nat.le_of_ble_eq_true rfl) (Nat.le_of_ble_eq_true rfl) rfl) rfl rfl ?_
      refine qev.mono h (fun v _ I9 _ h => ?_)
      obtain ⟨rfl, h⟩ := h
      refine ⟨rfl, ?_⟩
      refine e_next (pc' := 110) rfl rfl ?_
      refine e_iconst (pc' := 111) rfl rfl kc_3 ?_
      refine e_icmp ((nI 3) ≤ r2) (pc' := 114) rfl rfl e_d (fun hc => ?_) (fun hc => ?_)
      · replace h := h.1 hc
        exact h
      · replace h := h.2 hc
        refine e_next (pc' := 115) rfl rfl ?_
        refine e_iconst (pc' := 116) rfl rfl kc_2 ?_
        refine e_next (pc' := 117) rfl rfl ?_
        refine e_bipush (pc' := 119) rfl rfl kb_8 ?_
        refine e_cjI (pc' := 122) rfl (e_sV (as := [_]) (fun _ => rfl) (Or.inl rfl) rfl (hs.o rfl) rfl rfl (Nat.le_of_ble_eq_true rfl) (Nat.le_of_ble_eq_true rfl) rfl) rfl ?_
        refine qev.mono h (fun v _ I10 J6 h => ?_)
        obtain ⟨r6, rfl, h⟩ := h
        refine ⟨r6, rfl, ?_⟩
        refine e_ciV (pc' := 125) rfl (e_sV (as := [_, _]) (fun _ => rfl) (Or.inl rfl) rfl (hs.o rfl) rfl rfl (Nat.le_of_ble_eq_true rfl) (Nat.le_of_ble_eq_true rfl) rfl) rfl rfl ?_
        refine qev.mono h (fun v _ I11 _ h => ?_)
        obtain ⟨rfl, h⟩ := h
        refine ⟨rfl, ?_⟩
        exact h
  · replace h := h.1 (Decidable.not_not.mp hc)
    refine e_next (pc' := 43) rfl rfl ?_
    refine e_iconst (pc' := 44) rfl rfl kc_0 ?_
    refine e_next (pc' := 45) rfl rfl ?_
    refine e_next (pc' := 46) rfl rfl ?_
    refine e_getI (pc' := 49) rfl (Or.inl rfl) rfl (hs.o rfl) ?_
    refine e_cjI (pc' := 52) rfl (e_sV (as := [_]) (fun _ => rfl) (Or.inl rfl) rfl (hs.o rfl) rfl rfl (Nat.le_of_ble_eq_true rfl) (Nat.le_of_ble_eq_true rfl) rfl) rfl ?_
    refine qev.mono h (fun v _ I12 J7 h => ?_)
    obtain ⟨r7, rfl, h⟩ := h
    refine ⟨r7, rfl, ?_⟩
    refine e_ciV (pc' := 55) rfl (e_sV (as := [_, _]) (fun _ => rfl) (Or.inl rfl) rfl (hs.o rfl) rfl rfl (Nat.le_of_ble_eq_true rfl) (Nat.le_of_ble_eq_true rfl) rfl) rfl rfl ?_
    refine qev.mono h (fun v _ I13 _ h => ?_)
    obtain ⟨rfl, h⟩ := h
    refine ⟨rfl, ?_⟩
    refine e_next (pc' := 56) rfl rfl ?_
    refine e_iconst (pc' := 57) rfl rfl kc_0 ?_
    refine e_next (pc' := 58) rfl rfl ?_
    refine e_next (pc' := 59) rfl rfl ?_
    refine e_getI (pc' := 62) rfl (Or.inl rfl) rfl (hs.o rfl) ?_
    refine e_cjI (pc' := 65) rfl (e_sV (as := [_]) (fun _ => rfl) (Or.inl rfl) rfl (hs.o rfl) rfl rfl (Nat.le_of_ble_eq_true rfl) (Nat.le_of_ble_eq_true rfl) rfl) rfl ?_
    refine qev.mono h (fun v _ I14 J8 h => ?_)
    obtain ⟨r8, rfl, h⟩ := h
    refine ⟨r8, rfl, ?_⟩
    refine e_ciV (pc' := 68) rfl (e_sV (as := [_, _]) (fun _ => rfl) (Or.inl rfl) rfl (hs.o rfl) rfl rfl (Nat.le_of_ble_eq_true rfl) (Nat.le_of_ble_eq_true rfl) rfl) rfl rfl ?_
    refine qev.mono h (fun v _ I15 _ h => ?_)
    obtain ⟨rfl, h⟩ := h
    refine ⟨rfl, ?_⟩
    refine e_next (pc' := 69) rfl rfl ?_
    refine e_iconst (pc' := 70) rfl rfl kc_1 ?_
    refine e_iconst (pc' := 71) rfl rfl kc_0 ?_
    refine e_ciV (pc' := 74) rfl (e_sV (as := [_, _]) (fun _ => rfl) (Or.inl rfl) rfl (hs.o rfl) rfl rfl (Nat.le_of_ble_eq_true rfl) (Nat.le_of_ble_eq_true rfl) rfl) rfl rfl ?_
    refine qev.mono h (fun v _ I16 _ h => ?_)
    obtain ⟨rfl, h⟩ := h
    refine ⟨rfl, ?_⟩
    refine e_next (pc' := 75) rfl rfl ?_
    refine e_iconst (pc' := 76) rfl rfl kc_5 ?_
    refine e_iconst (pc' := 77) rfl rfl kc_0 ?_
    refine e_ciV (pc' := 80) rfl (e_sV (as := [_, _]) (fun _ => rfl) (Or.inl rfl) rfl (hs.o rfl) rfl rfl (Nat.le_of_ble_eq_true rfl) (Nat.le_of_ble_eq_true rfl) rfl) rfl rfl ?_
    refine qev.mono h (fun v _ I17 _ h => ?_)
    obtain ⟨rfl, h⟩ := h
    refine ⟨rfl, ?_⟩
    refine e_next (pc' := 81) rfl rfl ?_
    refine e_iconst (pc' := 82) rfl rfl kc_3 ?_
    refine e_iconst (pc' := 83) rfl rfl kc_0 ?_
    refine e_ciV (pc' := 86) rfl (e_sV (as := [_, _]) (fun _ => rfl) (Or.inl rfl) rfl (hs.o rfl) rfl rfl (Nat.le_of_ble_eq_true rfl) (Nat.le_of_ble_eq_true rfl) rfl) rfl rfl ?_
    refine qev.mono h (fun v _ I18 _ h => ?_)
    obtain ⟨rfl, h⟩ := h
    refine ⟨rfl, ?_⟩
    exact qev_ret rfl rfl h
theorem w236_125 {d : Nat} {i1 : Int32} {g : qG} {I : qI} {J : qJ} {Q : qQ} (hs : qSh g)  (h : ((i1 = nI 1 → qC d 162 [.ref 105, .int (nI 3), .int (nI 0)] g I J (fun v _ I1 _ => v = none ∧ Q none g I1 J)) ∧ (i1 = nI 2 → qC d 162 [.ref 105, .int (nI 5), .int (nI 0)] g I J (fun v _ I2 _ => v = none ∧ Q none g I2 J)) ∧ (i1 = nI 3 → qC d 162 [.ref 105, .int (nI 8), .int (nI 0)] g I J (fun v _ I3 _ => v = none ∧ Q none g I3 J)) ∧ (i1 = nI 4 → qC d 162 [.ref 105, .int (nI 6), .int (nI 0)] g I J (fun v _ I4 _ => v = none ∧ Q none g I4 J)) ∧ (¬ i1 = nI 1 ∧ ¬ i1 = nI 2 ∧ ¬ i1 = nI 3 ∧ ¬ i1 = nI 4 → qC d 235 [.ref 105, .int (I 105 8)] g I J (fun v _ I5 J1 => ∃ r1, v = some (.int r1) ∧ qC d 162 [.ref 105, .int (nI 14), .int (r1 + (nI 1))] g I5 J1 (fun v _ I6 _ => v = none ∧ Q none g I6 J1))))) : qev (d + 1) 236 (125, [.ref 105, .int i1], [], g, I, J) Q := by
  refine e_next (pc' := 126) rfl rfl ?_
  by_cases hc1 : i1 = nI 1
  · refine e_tswI (t := 156) 1 rfl hc1 (by decide) (by decide) ?_
    replace h := h.1 hc1
    refine e_next (pc' := 157) rfl rfl ?_
    refine e_iconst (pc' := 158) rfl rfl kc_3 ?_
    refine e_iconst (pc' := 159) rfl rfl kc_0 ?_
    refine e_ciV (pc' := 162) rfl (e_sV (as := [_, _]) (fun _ => rfl) (Or.inl rfl) rfl (hs.o rfl) rfl rfl (Nat.le_of_ble_eq_true rfl) (Nat.le_of_ble_eq_true rfl) rfl) rfl rfl ?_
    refine qev.mono h (fun v _ I1 _ h => ?_)
    obtain ⟨rfl, h⟩ := h
    refine ⟨rfl, ?_⟩
    refine e_next (pc' := 210) rfl rfl ?_
    exact qev_ret rfl rfl h
  replace h := h.2
  by_cases hc2 : i1 = nI 2
  · refine e_tswI (t := 165) 2 rfl hc2 (by decide) (by decide) ?_
    replace h := h.1 hc2
    refine e_next (pc' := 166) rfl rfl ?_
    refine e_iconst (pc' := 167) rfl rfl kc_5 ?_
    refine e_iconst (pc' := 168) rfl rfl kc_0 ?_
    refine e_ciV (pc' := 171) rfl (e_sV (as := [_, _]) (fun _ => rfl) (Or.inl rfl) rfl (hs.o rfl) rfl rfl (Nat.le_of_ble_eq_true rfl) (Nat.le_of_ble_eq_true rfl) rfl) rfl rfl ?_
    refine qev.mono h (fun v _ I2 _ h => ?_)
    obtain ⟨rfl, h⟩ := h
    refine ⟨rfl, ?_⟩
    refine e_next (pc' := 210) rfl rfl ?_
    exact qev_ret rfl rfl h
  replace h := h.2
  by_cases hc3 : i1 = nI 3
  · refine e_tswI (t := 174) 3 rfl hc3 (by decide) (by decide) ?_
    replace h := h.1 hc3
    refine e_next (pc' := 175) rfl rfl ?_
    refine e_bipush (pc' := 177) rfl rfl kb_8 ?_
    refine e_iconst (pc' := 178) rfl rfl kc_0 ?_
    refine e_ciV (pc' := 181) rfl (e_sV (as := [_, _]) (fun _ => rfl) (Or.inl rfl) rfl (hs.o rfl) rfl rfl (Nat.le_of_ble_eq_true rfl) (Nat.le_of_ble_eq_true rfl) rfl) rfl rfl ?_
    refine qev.mono h (fun v _ I3 _ h => ?_)
    obtain ⟨rfl, h⟩ := h
    refine ⟨rfl, ?_⟩
    refine e_next (pc' := 210) rfl rfl ?_
    exact qev_ret rfl rfl h
  replace h := h.2
  by_cases hc4 : i1 = nI 4
  · refine e_tswI (t := 184) 4 rfl hc4 (by decide) (by decide) ?_
    replace h := h.1 hc4
    refine e_next (pc' := 185) rfl rfl ?_
    refine e_bipush (pc' := 187) rfl rfl kb_6 ?_
    refine e_iconst (pc' := 188) rfl rfl kc_0 ?_
    refine e_ciV (pc' := 191) rfl (e_sV (as := [_, _]) (fun _ => rfl) (Or.inl rfl) rfl (hs.o rfl) rfl rfl (Nat.le_of_ble_eq_true rfl) (Nat.le_of_ble_eq_true rfl) rfl) rfl rfl ?_
    refine qev.mono h (fun v _ I4 _ h => ?_)
    obtain ⟨rfl, h⟩ := h
    refine ⟨rfl, ?_⟩
    refine e_next (pc' := 210) rfl rfl ?_
    exact qev_ret rfl rfl h
  replace h := h.2
  replace h := h ⟨hc1, hc2, hc3, hc4⟩
  refine e_tswO (t := 194) (lo := 1) (hi := 4) rfl (fun k h1 h2 => ?_) (by decide) (by decide) ?_
  · rcases (show k = 1 ∨ k = 2 ∨ k = 3 ∨ k = 4 by omega) with rfl | rfl | rfl | rfl
    · exact hc1
    · exact hc2
    · exact hc3
    · exact hc4
  refine e_next (pc' := 195) rfl rfl ?_
  refine e_bipush (pc' := 197) rfl rfl kb_14 ?_
  refine e_next (pc' := 198) rfl rfl ?_
  refine e_next (pc' := 199) rfl rfl ?_
  refine e_getI (pc' := 202) rfl (Or.inl rfl) rfl (hs.o rfl) ?_
  refine e_cjI (pc' := 205) rfl (e_sV (as := [_]) (fun _ => rfl) (Or.inl rfl) rfl (hs.o rfl) rfl rfl (Nat.le_of_ble_eq_true rfl) (Nat.le_of_ble_eq_true rfl) rfl) rfl ?_
  refine qev.mono h (fun v _ I5 J1 h => ?_)
  obtain ⟨r1, rfl, h⟩ := h
  refine ⟨r1, rfl, ?_⟩
  refine e_iconst (pc' := 206) rfl rfl kc_1 ?_
  refine e_next (pc' := 207) rfl rfl ?_
  refine e_ciV (pc' := 210) rfl (e_sV (as := [_, _]) (fun _ => rfl) (Or.inl rfl) rfl (hs.o rfl) rfl rfl (Nat.le_of_ble_eq_true rfl) (Nat.le_of_ble_eq_true rfl) rfl) rfl rfl ?_
  refine qev.mono h (fun v _ I6 _ h => ?_)
  obtain ⟨rfl, h⟩ := h
  refine ⟨rfl, ?_⟩
  exact qev_ret rfl rfl h
theorem w237 {d : Nat}  {g : qG} {I : qI} {J : qJ} {Q : qQ}  (h : qev d 237 (4, [.ref 105, .int (nI 0), .int (nI 0)], [], g, I, J) Q) : qC d 237 [.ref 105] g I J Q := by
  show qev d 237 (0, [.ref 105, qpad, qpad], [], g, I, J) Q
  refine e_iconst (pc' := 1) rfl rfl kc_0 ?_
  refine e_next (pc' := 2) (ls' := [_, _, _]) rfl rfl ?_
  refine e_iconst (pc' := 3) rfl rfl kc_0 ?_
  refine e_next (pc' := 4) (ls' := [_, _, _]) rfl rfl ?_
  exact h
theorem w237_4 {d : Nat} {i1 : Int32} {i2 : Int32} {g : qG} {I : qI} {J : qJ} {Q : qQ} (hs : qSh g)  (h : (((nI 8) ≤ i2 → Q (some (.int i1)) g I J) ∧ (¬ (nI 8) ≤ i2 → ∃ k1, ((nI 25) * i2) = nI k1 ∧ k1 < 381 ∧ (((I 111 k1) ≤ 0 → qev d 237 (4, [.ref 105, .int (i1 + (nI 0)), .int (i2 + (nI 1))], [], g, I, J) Q) ∧ (¬ (I 111 k1) ≤ 0 → qev d 237 (4, [.ref 105, .int (i1 + (nI 1)), .int (i2 + (nI 1))], [], g, I, J) Q))))) : qev d 237 (4, [.ref 105, .int i1, .int i2], [], g, I, J) Q := by
  refine e_next (pc' := 5) rfl rfl ?_
  refine e_bipush (pc' := 7) rfl rfl kb_8 ?_
  refine e_icmp ((nI 8) ≤ i2) (pc' := 10) rfl rfl e_d (fun hc => ?_) (fun hc => ?_)
  · replace h := h.1 hc
    refine e_next (pc' := 37) rfl rfl ?_
    exact e_iret rfl h
  · replace h := h.2 hc
    refine e_next (pc' := 11) rfl rfl ?_
    refine e_next (pc' := 12) rfl rfl ?_
    refine e_getR (pc' := 15) rfl rfl (hs.o rfl) (hs.a rfl) ?_
    refine e_bipush (pc' := 17) rfl rfl kb_25 ?_
    refine e_next (pc' := 18) rfl rfl ?_
    refine e_next (pc' := 19) rfl rfl ?_
    obtain ⟨k1, hi_k1, hj_k1, h⟩ := h
    refine e_iald k1 (pc' := 20) rfl rfl (hs.k rfl) hi_k1 hj_k1 (by decide) ?_
    refine e_if ((I 111 k1) ≤ 0) (pc' := 23) rfl rfl e_d (fun hc => ?_) (fun hc => ?_)
    · replace h := h.1 hc
      refine e_iconst (pc' := 28) rfl rfl kc_0 ?_
      refine e_next (pc' := 29) rfl rfl ?_
      refine e_next (pc' := 30) (ls' := [_, _, _]) rfl rfl ?_
      refine e_iinc (pc' := 33) (ls' := [_, _, _]) (v := (nI 1)) rfl rfl kc_1 rfl rfl ?_
      refine e_next (pc' := 4) rfl rfl ?_
      exact h
    · replace h := h.2 hc
      refine e_iconst (pc' := 24) rfl rfl kc_1 ?_
      refine e_next (pc' := 28) rfl rfl ?_
      refine e_next (pc' := 29) rfl rfl ?_
      refine e_next (pc' := 30) (ls' := [_, _, _]) rfl rfl ?_
      refine e_iinc (pc' := 33) (ls' := [_, _, _]) (v := (nI 1)) rfl rfl kc_1 rfl rfl ?_
      refine e_next (pc' := 4) rfl rfl ?_
      exact h
theorem w238 {d : Nat} {x1 : Int32} {x2 : Int64} {g : qG} {I : qI} {J : qJ} {Q : qQ} (hs : qSh g)  (h : ((((qw I 105 0 (nI 0)) 105 7) = 0 → Q (some (.int (-1))) g (qw I 105 0 (nI 0)) J) ∧ (¬ ((qw I 105 0 (nI 0)) 105 7) = 0 → qC d 147 [.long (Int32.toInt64 x1), .long (lN 1), .long (lN 40)] g (qw I 105 0 (nI 0)) J (fun v _ _ _ => ∃ r1, v = some (.int r1) ∧ ((r1 = 0 → Q (some (.int (-1))) g (qw I 105 0 (nI 0)) J) ∧ (¬ r1 = 0 → qev (d + 1) 238 (34, [.ref 105, .int x1, .long x2, qpad, .int (nI 0), qpad], [], g, (qw I 105 0 (nI 0)), (qw J 105 28 x2)) Q)))))) : qC (d + 1) 238 [.ref 105, .int x1, .long x2] g I J Q := by
  show qev (d + 1) 238 (0, [.ref 105, .int x1, .long x2, qpad, qpad, qpad], [], g, I, J) Q
  refine e_next (pc' := 1) rfl rfl ?_
  refine e_iconst (pc' := 2) rfl rfl kc_0 ?_
  refine e_putI (pc' := 5) rfl rfl (hs.o rfl) ?_
  refine e_next (pc' := 6) rfl rfl ?_
  refine e_getI (pc' := 9) rfl (Or.inl rfl) rfl (hs.o rfl) ?_
  refine e_if (((qw I 105 0 (nI 0)) 105 7) = 0) (pc' := 12) rfl rfl e_d (fun hc => ?_) (fun hc => ?_)
  · replace h := h.1 hc
    refine e_iconst (pc' := 25) rfl rfl kc_m1 ?_
    exact e_iret rfl h
  · replace h := h.2 hc
    refine e_next (pc' := 13) rfl rfl ?_
    refine e_next (pc' := 14) rfl rfl ?_
    refine e_lconst (pc' := 15) rfl rfl kl_1 ?_
    refine e_ldc2 (pc' := 18) rfl rfl kN_40 ?_
    refine e_cpI (pc' := 21) rfl (e_sS (as := [_, _, _]) (fun _ => rfl) rfl (Nat.le_of_ble_eq_true rfl) rfl rfl (Nat.le_of_ble_eq_true rfl) (Nat.le_of_ble_eq_true rfl) rfl) rfl rfl rfl ?_
    refine qev.mono h (fun v _ _ _ h => ?_)
    obtain ⟨r1, rfl, h⟩ := h
    refine ⟨r1, rfl, ?_⟩
    refine e_if (¬ r1 = 0) (pc' := 24) rfl rfl e_d (fun hc => ?_) (fun hc => ?_)
    · replace h := h.2 hc
      refine e_next (pc' := 27) rfl rfl ?_
      refine e_next (pc' := 28) rfl rfl ?_
      refine e_putJ (pc' := 31) rfl rfl (hs.o rfl) ?_
      refine e_iconst (pc' := 32) rfl rfl kc_0 ?_
      refine e_next (pc' := 34) (ls' := [_, _, _, _, _, _]) rfl rfl ?_
      exact h
    · replace h := h.1 (Decidable.not_not.mp hc)
      refine e_iconst (pc' := 25) rfl rfl kc_m1 ?_
      exact e_iret rfl h
theorem w238_34 {d : Nat} {i1 : Int32} {j2 : Int64} {i4 : Int32} {w5 : Value} {g : qG} {I : qI} {J : qJ} {Q : qQ} (hs : qSh g)  (h : ((i1 ≤ i4 → qC d 237 [.ref 105] g I J (fun v _ _ _ => ∃ r1, v = some (.int r1) ∧ Q (some (.int r1)) g I J)) ∧ (¬ i1 ≤ i4 → qC d 236 [.ref 105] g I J (fun v _ I1 J1 => v = none ∧ qC d 217 [.ref 105, .int (nI 40)] g I1 J1 (fun v _ I2 _ => ∃ r2, v = some (.int r2) ∧ qev (d + 1) 238 (34, [.ref 105, .int i1, .long j2, qpad, .int (i4 + (nI 1)), .int r2], [], g, I2, J1) Q))))) : qev (d + 1) 238 (34, [.ref 105, .int i1, .long j2, qpad, .int i4, w5], [], g, I, J) Q := by
  refine e_next (pc' := 36) rfl rfl ?_
  refine e_next (pc' := 37) rfl rfl ?_
  refine e_icmp (i1 ≤ i4) (pc' := 40) rfl rfl e_d (fun hc => ?_) (fun hc => ?_)
  · replace h := h.1 hc
    refine e_next (pc' := 59) rfl rfl ?_
    refine e_cpI (pc' := 62) rfl (e_sV (as := []) (fun _ => rfl) (Or.inl rfl) rfl (hs.o rfl) rfl rfl (Nat.le_of_ble_eq_true rfl) (Nat.le_of_ble_eq_true rfl) rfl) rfl rfl rfl ?_
    refine qev.mono h (fun v _ _ _ h => ?_)
    obtain ⟨r1, rfl, h⟩ := h
    refine ⟨r1, rfl, ?_⟩
    exact e_iret rfl h
  · replace h := h.2 hc
    refine e_next (pc' := 41) rfl rfl ?_
    refine e_cjV (pc' := 44) rfl (e_sV (as := []) (fun _ => rfl) (Or.inl rfl) rfl (hs.o rfl) rfl rfl (Nat.le_of_ble_eq_true rfl) (Nat.le_of_ble_eq_true rfl) rfl) rfl ?_
    refine qev.mono h (fun v _ I1 J1 h => ?_)
    obtain ⟨rfl, h⟩ := h
    refine ⟨rfl, ?_⟩
    refine e_next (pc' := 45) rfl rfl ?_
    refine e_bipush (pc' := 47) rfl rfl kb_40 ?_
    refine e_ciI (pc' := 50) rfl (e_sV (as := [_]) (fun _ => rfl) (Or.inl rfl) rfl (hs.o rfl) rfl rfl (Nat.le_of_ble_eq_true rfl) (Nat.le_of_ble_eq_true rfl) rfl) rfl rfl ?_
    refine qev.mono h (fun v _ I2 _ h => ?_)
    obtain ⟨r2, rfl, h⟩ := h
    refine ⟨r2, rfl, ?_⟩
    refine e_next (pc' := 52) (ls' := [_, _, _, _, _, _]) rfl rfl ?_
    refine e_iinc (pc' := 55) (ls' := [_, _, _, _, _, _]) (v := (nI 1)) rfl rfl kc_1 rfl rfl ?_
    refine e_next (pc' := 34) rfl rfl ?_
    exact h
theorem w239 {d : Nat} {x1 : Int32} {g : qG} {I : qI} {J : qJ} {Q : qQ} (hs : qSh g)  (h : qC d 147 [.long (Int32.toInt64 x1), .long (lN 0), .long (lN 5)] g (qw I 105 0 (nI 0)) J (fun v _ _ _ => ∃ r1, v = some (.int r1) ∧ ((r1 = 0 → Q (some (.int (-1))) g (qw I 105 0 (nI 0)) J) ∧ (¬ r1 = 0 → ∃ k1, x1 = nI k1 ∧ k1 < 6 ∧ Q (some (.int ((qw I 105 0 (nI 0)) 116 k1))) g (qw I 105 0 (nI 0)) J)))) : qC (d + 1) 239 [.ref 105, .int x1] g I J Q := by
  show qev (d + 1) 239 (0, [.ref 105, .int x1], [], g, I, J) Q
  refine e_next (pc' := 1) rfl rfl ?_
  refine e_iconst (pc' := 2) rfl rfl kc_0 ?_
  refine e_putI (pc' := 5) rfl rfl (hs.o rfl) ?_
  refine e_next (pc' := 6) rfl rfl ?_
  refine e_next (pc' := 7) rfl rfl ?_
  refine e_lconst (pc' := 8) rfl rfl kl_0 ?_
  refine e_ldc2 (pc' := 11) rfl rfl kN_5 ?_
  refine e_cpI (pc' := 14) rfl (e_sS (as := [_, _, _]) (fun _ => rfl) rfl (Nat.le_of_ble_eq_true rfl) rfl rfl (Nat.le_of_ble_eq_true rfl) (Nat.le_of_ble_eq_true rfl) rfl) rfl rfl rfl ?_
  refine qev.mono h (fun v _ _ _ h => ?_)
  obtain ⟨r1, rfl, h⟩ := h
  refine ⟨r1, rfl, ?_⟩
  refine e_if (r1 = 0) (pc' := 17) rfl rfl e_d (fun hc => ?_) (fun hc => ?_)
  · replace h := h.1 hc
    refine e_iconst (pc' := 27) rfl rfl kc_m1 ?_
    exact e_iret rfl h
  · replace h := h.2 hc
    refine e_next (pc' := 18) rfl rfl ?_
    refine e_getR (pc' := 21) rfl rfl (hs.o rfl) (hs.a rfl) ?_
    refine e_next (pc' := 22) rfl rfl ?_
    obtain ⟨k1, hi_k1, hj_k1, h⟩ := h
    refine e_iald k1 (pc' := 23) rfl rfl (hs.k rfl) hi_k1 hj_k1 (by decide) ?_
    refine e_next (pc' := 27) rfl rfl ?_
    exact e_iret rfl h
theorem w240 {d : Nat}  {g : qG} {I : qI} {J : qJ} {Q : qQ} (hs : qSh g)  (h : ((((qw I 105 0 (nI 0)) 105 22) = 0 → Q (some (.int (-1))) g (qw I 105 0 (nI 0)) J) ∧ (¬ ((qw I 105 0 (nI 0)) 105 22) = 0 → qC d 177 [.ref 114, .int ((nI 381) * (qrem (((qw (qw I 105 0 (nI 0)) 105 22 (((qw I 105 0 (nI 0)) 105 22) - (nI 1))) 105 21) + ((qw (qw I 105 0 (nI 0)) 105 22 (((qw I 105 0 (nI 0)) 105 22) - (nI 1))) 105 22)) (nI 40))), .ref 111, .int (nI 0)] g (qw (qw I 105 0 (nI 0)) 105 22 (((qw I 105 0 (nI 0)) 105 22) - (nI 1))) J (fun v _ I1 _ => v = none ∧ Q (some (.int (I1 105 22))) g I1 J)))) : qC (d + 1) 240 [.ref 105] g I J Q := by
  show qev (d + 1) 240 (0, [.ref 105], [], g, I, J) Q
  refine e_next (pc' := 1) rfl rfl ?_
  refine e_iconst (pc' := 2) rfl rfl kc_0 ?_
  refine e_putI (pc' := 5) rfl rfl (hs.o rfl) ?_
  refine e_next (pc' := 6) rfl rfl ?_
  refine e_getI (pc' := 9) rfl (Or.inl rfl) rfl (hs.o rfl) ?_
  refine e_if (¬ ((qw I 105 0 (nI 0)) 105 22) = 0) (pc' := 12) rfl rfl e_d (fun hc => ?_) (fun hc => ?_)
  · replace h := h.2 hc
    refine e_next (pc' := 15) rfl rfl ?_
    refine e_next (pc' := 16) rfl rfl ?_
    refine e_getI (pc' := 19) rfl (Or.inl rfl) rfl (hs.o rfl) ?_
    refine e_iconst (pc' := 20) rfl rfl kc_1 ?_
    refine e_next (pc' := 21) rfl rfl ?_
    refine e_putI (pc' := 24) rfl rfl (hs.o rfl) ?_
    refine e_next (pc' := 25) rfl rfl ?_
    refine e_getR (pc' := 28) rfl rfl (hs.o rfl) (hs.a rfl) ?_
    refine e_sipush (pc' := 31) rfl rfl ks_381 ?_
    refine e_next (pc' := 32) rfl rfl ?_
    refine e_getI (pc' := 35) rfl (Or.inl rfl) rfl (hs.o rfl) ?_
    refine e_next (pc' := 36) rfl rfl ?_
    refine e_getI (pc' := 39) rfl (Or.inl rfl) rfl (hs.o rfl) ?_
    refine e_next (pc' := 40) rfl rfl ?_
    refine e_bipush (pc' := 42) rfl rfl kb_40 ?_
    refine e_irem (pc' := 43) rfl rfl (by decide) ?_
    refine e_next (pc' := 44) rfl rfl ?_
    refine e_next (pc' := 45) rfl rfl ?_
    refine e_getR (pc' := 48) rfl rfl (hs.o rfl) (hs.a rfl) ?_
    refine e_iconst (pc' := 49) rfl rfl kc_0 ?_
    refine e_ciV (pc' := 52) rfl (e_sS (as := [_, _, _, _]) (fun _ => rfl) rfl (Nat.le_of_ble_eq_true rfl) rfl rfl (Nat.le_of_ble_eq_true rfl) (Nat.le_of_ble_eq_true rfl) rfl) rfl rfl ?_
    refine qev.mono h (fun v _ I1 _ h => ?_)
    obtain ⟨rfl, h⟩ := h
    refine ⟨rfl, ?_⟩
    refine e_next (pc' := 53) rfl rfl ?_
    refine e_getI (pc' := 56) rfl (Or.inl rfl) rfl (hs.o rfl) ?_
    exact e_iret rfl h
  · replace h := h.1 (Decidable.not_not.mp hc)
    refine e_iconst (pc' := 13) rfl rfl kc_m1 ?_
    exact e_iret rfl h
theorem w241 {d : Nat} {x1 : Int32} {x2 : Int32} {g : qG} {I : qI} {J : qJ} {Q : qQ} (hs : qSh g)  (h : ((x1 < 0 → Q (some (.int (-1000000))) g (qw I 105 0 (nI 0)) J) ∧ (¬ x1 < 0 → ((((qw I 105 0 (nI 0)) 111 200) ≤ x1 → Q (some (.int (-1000000))) g (qw I 105 0 (nI 0)) J) ∧ (¬ ((qw I 105 0 (nI 0)) 111 200) ≤ x1 → qC d 147 [.long (Int32.toInt64 x2), .long (lN 0), .long (lN 2)] g (qw I 105 0 (nI 0)) J (fun v _ _ _ => ∃ r1, v = some (.int r1) ∧ ((r1 = 0 → Q (some (.int (-1000000))) g (qw I 105 0 (nI 0)) J) ∧ (¬ r1 = 0 → ∃ k1, (((nI 201) + ((nI 3) * ((((qw I 105 0 (nI 0)) 111 200) - (nI 1)) - x1))) + x2) = nI k1 ∧ k1 < 381 ∧ Q (some (.int ((qw I 105 0 (nI 0)) 111 k1))) g (qw I 105 0 (nI 0)) J)))))))) : qC (d + 1) 241 [.ref 105, .int x1, .int x2] g I J Q := by
  show qev (d + 1) 241 (0, [.ref 105, .int x1, .int x2], [], g, I, J) Q
  refine e_next (pc' := 1) rfl rfl ?_
  refine e_iconst (pc' := 2) rfl rfl kc_0 ?_
  refine e_putI (pc' := 5) rfl rfl (hs.o rfl) ?_
  refine e_next (pc' := 6) rfl rfl ?_
  refine e_if (x1 < 0) (pc' := 9) rfl rfl e_d (fun hc => ?_) (fun hc => ?_)
  · replace h := h.1 hc
    refine e_ldcw (pc' := 36) rfl rfl kn_4293967296 ?_
    exact e_iret rfl h
  · replace h := h.2 hc
    refine e_next (pc' := 10) rfl rfl ?_
    refine e_next (pc' := 11) rfl rfl ?_
    refine e_getR (pc' := 14) rfl rfl (hs.o rfl) (hs.a rfl) ?_
    refine e_sipush (pc' := 17) rfl rfl ks_200 ?_
    refine e_iald 200 (pc' := 18) rfl rfl (hs.k rfl) rfl (by decide) (by decide) ?_
    refine e_icmp (((qw I 105 0 (nI 0)) 111 200) ≤ x1) (pc' := 21) rfl rfl e_d (fun hc => ?_) (fun hc => ?_)
    · replace h := h.1 hc
      refine e_ldcw (pc' := 36) rfl rfl kn_4293967296 ?_
      exact e_iret rfl h
    · replace h := h.2 hc
      refine e_next (pc' := 22) rfl rfl ?_
      refine e_next (pc' := 23) rfl rfl ?_
      refine e_lconst (pc' := 24) rfl rfl kl_0 ?_
      refine e_ldc2 (pc' := 27) rfl rfl kN_2 ?_
      refine e_cpI (pc' := 30) rfl (e_sS (as := [_, _, _]) (fun _ => rfl) rfl (Nat.le_of_ble_eq_true rfl) rfl rfl (Nat.le_of_ble_eq_true rfl) (Nat.le_of_ble_eq_true rfl) rfl) rfl rfl rfl ?_
      refine qev.mono h (fun v _ _ _ h => ?_)
      obtain ⟨r1, rfl, h⟩ := h
      refine ⟨r1, rfl, ?_⟩
      refine e_if (¬ r1 = 0) (pc' := 33) rfl rfl e_d (fun hc => ?_) (fun hc => ?_)
      · replace h := h.2 hc
        refine e_next (pc' := 38) rfl rfl ?_
        refine e_getR (pc' := 41) rfl rfl (hs.o rfl) (hs.a rfl) ?_
        refine e_sipush (pc' := 44) rfl rfl ks_201 ?_
        refine e_iconst (pc' := 45) rfl rfl kc_3 ?_
        refine e_next (pc' := 46) rfl rfl ?_
        refine e_getR (pc' := 49) rfl rfl (hs.o rfl) (hs.a rfl) ?_
        refine e_sipush (pc' := 52) rfl rfl ks_200 ?_
        refine e_iald 200 (pc' := 53) rfl rfl (hs.k rfl) rfl (by decide) (by decide) ?_
        refine e_iconst (pc' := 54) rfl rfl kc_1 ?_
        refine e_next (pc' := 55) rfl rfl ?_
        refine e_next (pc' := 56) rfl rfl ?_
        refine e_next (pc' := 57) rfl rfl ?_
        refine e_next (pc' := 58) rfl rfl ?_
        refine e_next (pc' := 59) rfl rfl ?_
        refine e_next (pc' := 60) rfl rfl ?_
        refine e_next (pc' := 61) rfl rfl ?_
        obtain ⟨k1, hi_k1, hj_k1, h⟩ := h
        refine e_iald k1 (pc' := 62) rfl rfl (hs.k rfl) hi_k1 hj_k1 (by decide) ?_
        exact e_iret rfl h
      · replace h := h.1 (Decidable.not_not.mp hc)
        refine e_ldcw (pc' := 36) rfl rfl kn_4293967296 ?_
        exact e_iret rfl h
theorem w242 {d : Nat}  {g : qG} {I : qI} {J : qJ} {Q : qQ} (hs : qSh g)  (h : ((((qw I 105 0 (nI 0)) 105 7) = 0 → Q (some (.int (-1))) g (qw I 105 0 (nI 0)) J) ∧ (¬ ((qw I 105 0 (nI 0)) 105 7) = 0 → qC d 177 [.ref 111, .int (nI 0), .ref 113, .int (nI 0)] g (qw I 105 0 (nI 0)) J (fun v _ I1 _ => v = none ∧ qC d 237 [.ref 105] g (qw I1 105 23 (nI 1)) J (fun v _ _ _ => ∃ r1, v = some (.int r1) ∧ Q (some (.int r1)) g (qw I1 105 23 (nI 1)) J))))) : qC (d + 1) 242 [.ref 105] g I J Q := by
  show qev (d + 1) 242 (0, [.ref 105], [], g, I, J) Q
  refine e_next (pc' := 1) rfl rfl ?_
  refine e_iconst (pc' := 2) rfl rfl kc_0 ?_
  refine e_putI (pc' := 5) rfl rfl (hs.o rfl) ?_
  refine e_next (pc' := 6) rfl rfl ?_
  refine e_getI (pc' := 9) rfl (Or.inl rfl) rfl (hs.o rfl) ?_
  refine e_if (¬ ((qw I 105 0 (nI 0)) 105 7) = 0) (pc' := 12) rfl rfl e_d (fun hc => ?_) (fun hc => ?_)
  · replace h := h.2 hc
    refine e_next (pc' := 15) rfl rfl ?_
    refine e_getR (pc' := 18) rfl rfl (hs.o rfl) (hs.a rfl) ?_
    refine e_iconst (pc' := 19) rfl rfl kc_0 ?_
    refine e_next (pc' := 20) rfl rfl ?_
    refine e_getR (pc' := 23) rfl rfl (hs.o rfl) (hs.a rfl) ?_
    refine e_iconst (pc' := 24) rfl rfl kc_0 ?_
    refine e_ciV (pc' := 27) rfl (e_sS (as := [_, _, _, _]) (fun _ => rfl) rfl (Nat.le_of_ble_eq_true rfl) rfl rfl (Nat.le_of_ble_eq_true rfl) (Nat.le_of_ble_eq_true rfl) rfl) rfl rfl ?_
    refine qev.mono h (fun v _ I1 _ h => ?_)
    obtain ⟨rfl, h⟩ := h
    refine ⟨rfl, ?_⟩
    refine e_next (pc' := 28) rfl rfl ?_
    refine e_iconst (pc' := 29) rfl rfl kc_1 ?_
    refine e_putZ (pc' := 32) rfl rfl (hs.o rfl) (Or.inr nI_one) ?_
    refine e_next (pc' := 33) rfl rfl ?_
    refine e_cpI (pc' := 36) rfl (e_sV (as := []) (fun _ => rfl) (Or.inl rfl) rfl (hs.o rfl) rfl rfl (Nat.le_of_ble_eq_true rfl) (Nat.le_of_ble_eq_true rfl) rfl) rfl rfl rfl ?_
    refine qev.mono h (fun v _ _ _ h => ?_)
    obtain ⟨r1, rfl, h⟩ := h
    refine ⟨r1, rfl, ?_⟩
    exact e_iret rfl h
  · replace h := h.1 (Decidable.not_not.mp hc)
    refine e_iconst (pc' := 13) rfl rfl kc_m1 ?_
    exact e_iret rfl h
theorem w243 {d : Nat}  {g : qG} {I : qI} {J : qJ} {Q : qQ} (hs : qSh g)  (h : ((((qw I 105 0 (nI 0)) 105 23) = 0 → Q (some (.int (-1))) g (qw I 105 0 (nI 0)) J) ∧ (¬ ((qw I 105 0 (nI 0)) 105 23) = 0 → qC d 177 [.ref 113, .int (nI 0), .ref 111, .int (nI 0)] g (qw I 105 0 (nI 0)) J (fun v _ I1 _ => v = none ∧ qC d 237 [.ref 105] g (qw I1 105 22 (nI 0)) J (fun v _ _ _ => ∃ r1, v = some (.int r1) ∧ Q (some (.int r1)) g (qw I1 105 22 (nI 0)) J))))) : qC (d + 1) 243 [.ref 105] g I J Q := by
  show qev (d + 1) 243 (0, [.ref 105], [], g, I, J) Q
  refine e_next (pc' := 1) rfl rfl ?_
  refine e_iconst (pc' := 2) rfl rfl kc_0 ?_
  refine e_putI (pc' := 5) rfl rfl (hs.o rfl) ?_
  refine e_next (pc' := 6) rfl rfl ?_
  refine e_getI (pc' := 9) rfl (Or.inr rfl) rfl (hs.o rfl) ?_
  refine e_if (¬ ((qw I 105 0 (nI 0)) 105 23) = 0) (pc' := 12) rfl rfl e_d (fun hc => ?_) (fun hc => ?_)
  · replace h := h.2 hc
    refine e_next (pc' := 15) rfl rfl ?_
    refine e_getR (pc' := 18) rfl rfl (hs.o rfl) (hs.a rfl) ?_
    refine e_iconst (pc' := 19) rfl rfl kc_0 ?_
    refine e_next (pc' := 20) rfl rfl ?_
    refine e_getR (pc' := 23) rfl rfl (hs.o rfl) (hs.a rfl) ?_
    refine e_iconst (pc' := 24) rfl rfl kc_0 ?_
    refine e_ciV (pc' := 27) rfl (e_sS (as := [_, _, _, _]) (fun _ => rfl) rfl (Nat.le_of_ble_eq_true rfl) rfl rfl (Nat.le_of_ble_eq_true rfl) (Nat.le_of_ble_eq_true rfl) rfl) rfl rfl ?_
    refine qev.mono h (fun v _ I1 _ h => ?_)
    obtain ⟨rfl, h⟩ := h
    refine ⟨rfl, ?_⟩
    refine e_next (pc' := 28) rfl rfl ?_
    refine e_iconst (pc' := 29) rfl rfl kc_0 ?_
    refine e_putI (pc' := 32) rfl rfl (hs.o rfl) ?_
    refine e_next (pc' := 33) rfl rfl ?_
    refine e_cpI (pc' := 36) rfl (e_sV (as := []) (fun _ => rfl) (Or.inl rfl) rfl (hs.o rfl) rfl rfl (Nat.le_of_ble_eq_true rfl) (Nat.le_of_ble_eq_true rfl) rfl) rfl rfl rfl ?_
    refine qev.mono h (fun v _ _ _ h => ?_)
    obtain ⟨r1, rfl, h⟩ := h
    refine ⟨r1, rfl, ?_⟩
    exact e_iret rfl h
  · replace h := h.1 (Decidable.not_not.mp hc)
    refine e_iconst (pc' := 13) rfl rfl kc_m1 ?_
    exact e_iret rfl h
theorem w244 {d : Nat} {x1 : Int32} {x2 : Int32} {g : qG} {I : qI} {J : qJ} {Q : qQ} (hs : qSh g)  (h : qC d 215 [.ref 105, .int x1] g (qw I 105 0 (nI 0)) J (fun v _ _ _ => ∃ r1, v = some (.int r1) ∧ ((r1 = 0 → Q (some (.int (-1))) g (qw I 105 0 (nI 0)) J) ∧ (¬ r1 = 0 → qC d 215 [.ref 105, .int x2] g (qw I 105 0 (nI 0)) J (fun v _ _ _ => ∃ r2, v = some (.int r2) ∧ ((r2 = 0 → Q (some (.int (-1))) g (qw I 105 0 (nI 0)) J) ∧ (¬ r2 = 0 → ∃ k1, ((nI 25) * x1) = nI k1 ∧ k1 < 381 ∧ ∃ k2, ((nI 25) * x2) = nI k2 ∧ k2 < 381 ∧ qC d 186 [.int ((qw I 105 0 (nI 0)) 111 k1), .int ((qw I 105 0 (nI 0)) 111 k2)] g (qw I 105 0 (nI 0)) J (fun v _ _ _ => ∃ r3, v = some (.int r3) ∧ qev (d + 1) 244 (48, [.ref 105, .int x1, .int x2, .int r3, .int (nI 0)], [], g, (qw I 105 0 (nI 0)), J) Q)))))))) : qC (d + 1) 244 [.ref 105, .int x1, .int x2] g I J Q := by
  show qev (d + 1) 244 (0, [.ref 105, .int x1, .int x2, qpad, qpad], [], g, I, J) Q
  refine e_next (pc' := 1) rfl rfl ?_
  refine e_iconst (pc' := 2) rfl rfl kc_0 ?_
  refine e_putI (pc' := 5) rfl rfl (hs.o rfl) ?_
  refine e_next (pc' := 6) rfl rfl ?_
  refine e_next (pc' := 7) rfl rfl ?_
  refine e_cpI (pc' := 10) rfl (e_sV (as := [_]) (fun _ => rfl) (Or.inl rfl) rfl (hs.o rfl) rfl rfl (Nat.le_of_ble_eq_true rfl) (Nat.le_of_ble_eq_true rfl) rfl) rfl rfl rfl ?_
  refine qev.mono h (fun v _ _ _ h => ?_)
  obtain ⟨r1, rfl, h⟩ := h
  refine ⟨r1, rfl, ?_⟩
  refine e_if (r1 = 0) (pc' := 13) rfl rfl e_d (fun hc => ?_) (fun hc => ?_)
  · replace h := h.1 hc
    refine e_iconst (pc' := 22) rfl rfl kc_m1 ?_
    exact e_iret rfl h
  · replace h := h.2 hc
    refine e_next (pc' := 14) rfl rfl ?_
    refine e_next (pc' := 15) rfl rfl ?_
    refine e_cpI (pc' := 18) rfl (e_sV (as := [_]) (fun _ => rfl) (Or.inl rfl) rfl (hs.o rfl) rfl rfl (Nat.le_of_ble_eq_true rfl) (Nat.le_of_ble_eq_true rfl) rfl) rfl rfl rfl ?_
    refine qev.mono h (fun v _ _ _ h => ?_)
    obtain ⟨r2, rfl, h⟩ := h
    refine ⟨r2, rfl, ?_⟩
    refine e_if (¬ r2 = 0) (pc' := 21) rfl rfl e_d (fun hc => ?_) (fun hc => ?_)
    · replace h := h.2 hc
      refine e_next (pc' := 24) rfl rfl ?_
      refine e_getR (pc' := 27) rfl rfl (hs.o rfl) (hs.a rfl) ?_
      refine e_bipush (pc' := 29) rfl rfl kb_25 ?_
      refine e_next (pc' := 30) rfl rfl ?_
      refine e_next (pc' := 31) rfl rfl ?_
      obtain ⟨k1, hi_k1, hj_k1, h⟩ := h
      refine e_iald k1 (pc' := 32) rfl rfl (hs.k rfl) hi_k1 hj_k1 (by decide) ?_
      refine e_next (pc' := 33) rfl rfl ?_
      refine e_getR (pc' := 36) rfl rfl (hs.o rfl) (hs.a rfl) ?_
      refine e_bipush (pc' := 38) rfl rfl kb_25 ?_
      refine e_next (pc' := 39) rfl rfl ?_
      refine e_next (pc' := 40) rfl rfl ?_
      obtain ⟨k2, hi_k2, hj_k2, h⟩ := h
      refine e_iald k2 (pc' := 41) rfl rfl (hs.k rfl) hi_k2 hj_k2 (by decide) ?_
      refine e_cpI (pc' := 44) rfl (e_sS (as := [_, _]) (fun _ => rfl) rfl (Nat.le_of_ble_eq_true rfl) rfl rfl (Nat.le_of_ble_eq_true rfl) (Nat.le_of_ble_eq_true rfl) rfl) rfl rfl rfl ?_
      refine qev.mono h (fun v _ _ _ h => ?_)
      obtain ⟨r3, rfl, h⟩ := h
      refine ⟨r3, rfl, ?_⟩
      refine e_next (pc' := 45) (ls' := [_, _, _, _, _]) rfl rfl ?_
      refine e_iconst (pc' := 46) rfl rfl kc_0 ?_
      refine e_next (pc' := 48) (ls' := [_, _, _, _, _]) rfl rfl ?_
      exact h
    · replace h := h.1 (Decidable.not_not.mp hc)
      refine e_iconst (pc' := 22) rfl rfl kc_m1 ?_
      exact e_iret rfl h
theorem w244_48 {d : Nat} {i1 : Int32} {i2 : Int32} {i3 : Int32} {i4 : Int32} {g : qG} {I : qI} {J : qJ} {Q : qQ} (hs : qSh g)  (h : ((i3 ≤ i4 → Q (some (.int i4)) g I J) ∧ (¬ i3 ≤ i4 → ∃ k1, ((((nI 25) * i1) + (nI 1)) + i4) = nI k1 ∧ k1 < 381 ∧ ∃ k2, ((((nI 25) * i2) + (nI 1)) + i4) = nI k2 ∧ k2 < 381 ∧ (((I 111 k1) = (I 111 k2) → qev (d + 1) 244 (48, [.ref 105, .int i1, .int i2, .int i3, .int (i4 + (nI 1))], [], g, I, J) Q) ∧ (¬ (I 111 k1) = (I 111 k2) → Q (some (.int i4)) g I J))))) : qev (d + 1) 244 (48, [.ref 105, .int i1, .int i2, .int i3, .int i4], [], g, I, J) Q := by
  refine e_next (pc' := 50) rfl rfl ?_
  refine e_next (pc' := 51) rfl rfl ?_
  refine e_icmp (i3 ≤ i4) (pc' := 54) rfl rfl e_d (fun hc => ?_) (fun hc => ?_)
  · replace h := h.1 hc
    refine e_next (pc' := 93) rfl rfl ?_
    exact e_iret rfl h
  · replace h := h.2 hc
    refine e_next (pc' := 55) rfl rfl ?_
    refine e_getR (pc' := 58) rfl rfl (hs.o rfl) (hs.a rfl) ?_
    refine e_bipush (pc' := 60) rfl rfl kb_25 ?_
    refine e_next (pc' := 61) rfl rfl ?_
    refine e_next (pc' := 62) rfl rfl ?_
    refine e_iconst (pc' := 63) rfl rfl kc_1 ?_
    refine e_next (pc' := 64) rfl rfl ?_
    refine e_next (pc' := 66) rfl rfl ?_
    refine e_next (pc' := 67) rfl rfl ?_
    obtain ⟨k1, hi_k1, hj_k1, h⟩ := h
    refine e_iald k1 (pc' := 68) rfl rfl (hs.k rfl) hi_k1 hj_k1 (by decide) ?_
    refine e_next (pc' := 69) rfl rfl ?_
    refine e_getR (pc' := 72) rfl rfl (hs.o rfl) (hs.a rfl) ?_
    refine e_bipush (pc' := 74) rfl rfl kb_25 ?_
    refine e_next (pc' := 75) rfl rfl ?_
    refine e_next (pc' := 76) rfl rfl ?_
    refine e_iconst (pc' := 77) rfl rfl kc_1 ?_
    refine e_next (pc' := 78) rfl rfl ?_
    refine e_next (pc' := 80) rfl rfl ?_
    refine e_next (pc' := 81) rfl rfl ?_
    obtain ⟨k2, hi_k2, hj_k2, h⟩ := h
    refine e_iald k2 (pc' := 82) rfl rfl (hs.k rfl) hi_k2 hj_k2 (by decide) ?_
    refine e_icmp (¬ (I 111 k1) = (I 111 k2)) (pc' := 85) rfl rfl e_d (fun hc => ?_) (fun hc => ?_)
    · replace h := h.2 hc
      refine e_next (pc' := 93) rfl rfl ?_
      exact e_iret rfl h
    · replace h := h.1 (Decidable.not_not.mp hc)
      refine e_iinc (pc' := 88) (ls' := [_, _, _, _, _]) (v := (nI 1)) rfl rfl kc_1 rfl rfl ?_
      refine e_next (pc' := 48) rfl rfl ?_
      exact h
theorem w245 {d : Nat} {x1 : Int32} {x2 : Int32} {g : qG} {I : qI} {J : qJ} {Q : qQ} (hs : qSh g)  (h : qC d 215 [.ref 105, .int x1] g (qw I 105 0 (nI 0)) J (fun v _ _ _ => ∃ r1, v = some (.int r1) ∧ ((r1 = 0 → Q (some (.int (-1))) g (qw I 105 0 (nI 0)) J) ∧ (¬ r1 = 0 → qC d 147 [.long (Int32.toInt64 x2), .long (lN 0), .long (lN 996)] g (qw I 105 0 (nI 0)) J (fun v _ _ _ => ∃ r2, v = some (.int r2) ∧ ((r2 = 0 → Q (some (.int (-1))) g (qw I 105 0 (nI 0)) J) ∧ (¬ r2 = 0 → ∃ k1, ((nI 25) * x1) = nI k1 ∧ k1 < 381 ∧ qev (d + 1) 245 (42, [.ref 105, .int x1, .int x2, .int (nI 0), .int (((qw I 105 0 (nI 0)) 111 k1) - (nI 1))], [], g, (qw I 105 0 (nI 0)), J) Q))))))) : qC (d + 1) 245 [.ref 105, .int x1, .int x2] g I J Q := by
  show qev (d + 1) 245 (0, [.ref 105, .int x1, .int x2, qpad, qpad], [], g, I, J) Q
  refine e_next (pc' := 1) rfl rfl ?_
  refine e_iconst (pc' := 2) rfl rfl kc_0 ?_
  refine e_putI (pc' := 5) rfl rfl (hs.o rfl) ?_
  refine e_next (pc' := 6) rfl rfl ?_
  refine e_next (pc' := 7) rfl rfl ?_
  refine e_cpI (pc' := 10) rfl (e_sV (as := [_]) (fun _ => rfl) (Or.inl rfl) rfl (hs.o rfl) rfl rfl (Nat.le_of_ble_eq_true rfl) (Nat.le_of_ble_eq_true rfl) rfl) rfl rfl rfl ?_
  refine qev.mono h (fun v _ _ _ h => ?_)
  obtain ⟨r1, rfl, h⟩ := h
  refine ⟨r1, rfl, ?_⟩
  refine e_if (r1 = 0) (pc' := 13) rfl rfl e_d (fun hc => ?_) (fun hc => ?_)
  · replace h := h.1 hc
    refine e_iconst (pc' := 26) rfl rfl kc_m1 ?_
    exact e_iret rfl h
  · replace h := h.2 hc
    refine e_next (pc' := 14) rfl rfl ?_
    refine e_next (pc' := 15) rfl rfl ?_
    refine e_lconst (pc' := 16) rfl rfl kl_0 ?_
    refine e_ldc2 (pc' := 19) rfl rfl kN_996 ?_
    refine e_cpI (pc' := 22) rfl (e_sS (as := [_, _, _]) (fun _ => rfl) rfl (Nat.le_of_ble_eq_true rfl) rfl rfl (Nat.le_of_ble_eq_true rfl) (Nat.le_of_ble_eq_true rfl) rfl) rfl rfl rfl ?_
    refine qev.mono h (fun v _ _ _ h => ?_)
    obtain ⟨r2, rfl, h⟩ := h
    refine ⟨r2, rfl, ?_⟩
    refine e_if (¬ r2 = 0) (pc' := 25) rfl rfl e_d (fun hc => ?_) (fun hc => ?_)
    · replace h := h.2 hc
      refine e_iconst (pc' := 28) rfl rfl kc_0 ?_
      refine e_next (pc' := 29) (ls' := [_, _, _, _, _]) rfl rfl ?_
      refine e_next (pc' := 30) rfl rfl ?_
      refine e_getR (pc' := 33) rfl rfl (hs.o rfl) (hs.a rfl) ?_
      refine e_bipush (pc' := 35) rfl rfl kb_25 ?_
      refine e_next (pc' := 36) rfl rfl ?_
      refine e_next (pc' := 37) rfl rfl ?_
      obtain ⟨k1, hi_k1, hj_k1, h⟩ := h
      refine e_iald k1 (pc' := 38) rfl rfl (hs.k rfl) hi_k1 hj_k1 (by decide) ?_
      refine e_iconst (pc' := 39) rfl rfl kc_1 ?_
      refine e_next (pc' := 40) rfl rfl ?_
      refine e_next (pc' := 42) (ls' := [_, _, _, _, _]) rfl rfl ?_
      exact h
    · replace h := h.1 (Decidable.not_not.mp hc)
      refine e_iconst (pc' := 26) rfl rfl kc_m1 ?_
      exact e_iret rfl h
theorem w245_42 {d : Nat} {i1 : Int32} {i2 : Int32} {i3 : Int32} {i4 : Int32} {g : qG} {I : qI} {J : qJ} {Q : qQ} (hs : qSh g)  (h : ((i4 < 0 → Q (some (.int i3)) g I J) ∧ (¬ i4 < 0 → ∃ k1, ((((nI 25) * i1) + (nI 1)) + i4) = nI k1 ∧ k1 < 381 ∧ qC d 178 [.ref 105, .long (((Int32.toInt64 i3) * (Int32.toInt64 i2)) + (Int32.toInt64 (I 111 k1)))] g I J (fun v _ _ _ => ∃ r1, v = some (.int r1) ∧ qev (d + 1) 245 (42, [.ref 105, .int i1, .int i2, .int r1, .int (i4 + (-1))], [], g, I, J) Q)))) : qev (d + 1) 245 (42, [.ref 105, .int i1, .int i2, .int i3, .int i4], [], g, I, J) Q := by
  refine e_next (pc' := 44) rfl rfl ?_
  refine e_if (i4 < 0) (pc' := 47) rfl rfl e_d (fun hc => ?_) (fun hc => ?_)
  · replace h := h.1 hc
    refine e_next (pc' := 80) rfl rfl ?_
    exact e_iret rfl h
  · replace h := h.2 hc
    refine e_next (pc' := 48) rfl rfl ?_
    refine e_next (pc' := 49) rfl rfl ?_
    refine e_next (pc' := 50) rfl rfl ?_
    refine e_next (pc' := 51) rfl rfl ?_
    refine e_next (pc' := 52) rfl rfl ?_
    refine e_next (pc' := 53) rfl rfl ?_
    refine e_next (pc' := 54) rfl rfl ?_
    refine e_getR (pc' := 57) rfl rfl (hs.o rfl) (hs.a rfl) ?_
    refine e_bipush (pc' := 59) rfl rfl kb_25 ?_
    refine e_next (pc' := 60) rfl rfl ?_
    refine e_next (pc' := 61) rfl rfl ?_
    refine e_iconst (pc' := 62) rfl rfl kc_1 ?_
    refine e_next (pc' := 63) rfl rfl ?_
    refine e_next (pc' := 65) rfl rfl ?_
    refine e_next (pc' := 66) rfl rfl ?_
    obtain ⟨k1, hi_k1, hj_k1, h⟩ := h
    refine e_iald k1 (pc' := 67) rfl rfl (hs.k rfl) hi_k1 hj_k1 (by decide) ?_
    refine e_next (pc' := 68) rfl rfl ?_
    refine e_next (pc' := 69) rfl rfl ?_
    refine e_cpI (pc' := 72) rfl (e_sV (as := [_]) (fun _ => rfl) (Or.inl rfl) rfl (hs.o rfl) rfl rfl (Nat.le_of_ble_eq_true rfl) (Nat.le_of_ble_eq_true rfl) rfl) rfl rfl rfl ?_
    refine qev.mono h (fun v _ _ _ h => ?_)
    obtain ⟨r1, rfl, h⟩ := h
    refine ⟨r1, rfl, ?_⟩
    refine e_next (pc' := 73) (ls' := [_, _, _, _, _]) rfl rfl ?_
    refine e_iinc (pc' := 76) (ls' := [_, _, _, _, _]) (v := (-1)) rfl rfl kc_m1 rfl rfl ?_
    refine e_next (pc' := 42) rfl rfl ?_
    exact h
theorem w246 {d : Nat} {x1 : Int32} {x2 : Int32} {x3 : Int32} {g : qG} {I : qI} {J : qJ} {Q : qQ} (hs : qSh g)  (h : qC d 215 [.ref 105, .int x1] g (qw I 105 0 (nI 0)) J (fun v _ _ _ => ∃ r1, v = some (.int r1) ∧ ((r1 = 0 → Q (some (.int (-1))) g (qw I 105 0 (nI 0)) J) ∧ (¬ r1 = 0 → qC d 147 [.long (Int32.toInt64 x2), .long (lN 0), .long (lN 4)] g (qw I 105 0 (nI 0)) J (fun v _ _ _ => ∃ r2, v = some (.int r2) ∧ ((r2 = 0 → Q (some (.int (-1))) g (qw I 105 0 (nI 0)) J) ∧ (¬ r2 = 0 → ∃ k1, (((nI 25) * x1) + (nI 1)) = nI k1 ∧ k1 < 381 ∧ ((((qw I 105 0 (nI 0)) 111 k1) = 0 → Q (some (.int (-1))) g (qw I 105 0 (nI 0)) J) ∧ (¬ ((qw I 105 0 (nI 0)) 111 k1) = 0 → qC d 225 [.ref 105, .int x1, .int (nI 0)] g (qw I 105 0 (nI 0)) J (fun v _ I1 _ => v = none ∧ qC d 180 [.ref 105, .int (nI 0)] g I1 J (fun v _ _ _ => ∃ r3, v = some (.int r3) ∧ qC d 186 [.int (qshl (nI 1) x2), .int r3] g I1 J (fun v _ _ _ => ∃ r4, v = some (.int r4) ∧ qC d 190 [.ref 105, .int (nI 0), .int (nI 40)] g I1 J (fun v _ I2 _ => v = none ∧ ((x3 = (-1) → Q (some (.int r4)) g I2 J) ∧ (¬ x3 = (-1) → qC d 147 [.long (Int32.toInt64 x3), .long (lN 0), .long (Int32.toInt64 (r4 - (nI 1)))] g I2 J (fun v _ _ _ => ∃ r5, v = some (.int r5) ∧ ((r5 = 0 → Q (some (.int (-1))) g I2 J) ∧ (¬ r5 = 0 → qC d 182 [.ref 105, .int (nI 40), .int x3] g I2 J (fun v _ _ _ => ∃ r6, v = some (.int r6) ∧ Q (some (.int r6)) g I2 J))))))))))))))))))) : qC (d + 1) 246 [.ref 105, .int x1, .int x2, .int x3] g I J Q := by
  show qev (d + 1) 246 (0, [.ref 105, .int x1, .int x2, .int x3, qpad], [], g, I, J) Q
  refine e_next (pc' := 1) rfl rfl ?_
  refine e_iconst (pc' := 2) rfl rfl kc_0 ?_
  refine e_putI (pc' := 5) rfl rfl (hs.o rfl) ?_
  refine e_next (pc' := 6) rfl rfl ?_
  refine e_next (pc' := 7) rfl rfl ?_
  refine e_cpI (pc' := 10) rfl (e_sV (as := [_]) (fun _ => rfl) (Or.inl rfl) rfl (hs.o rfl) rfl rfl (Nat.le_of_ble_eq_true rfl) (Nat.le_of_ble_eq_true rfl) rfl) rfl rfl rfl ?_
  refine qev.mono h (fun v _ _ _ h => ?_)
  obtain ⟨r1, rfl, h⟩ := h
  refine ⟨r1, rfl, ?_⟩
  refine e_if (r1 = 0) (pc' := 13) rfl rfl e_d (fun hc => ?_) (fun hc => ?_)
  · replace h := h.1 hc
    refine e_iconst (pc' := 40) rfl rfl kc_m1 ?_
    exact e_iret rfl h
  · replace h := h.2 hc
    refine e_next (pc' := 14) rfl rfl ?_
    refine e_next (pc' := 15) rfl rfl ?_
    refine e_lconst (pc' := 16) rfl rfl kl_0 ?_
    refine e_ldc2 (pc' := 19) rfl rfl kN_4 ?_
    refine e_cpI (pc' := 22) rfl (e_sS (as := [_, _, _]) (fun _ => rfl) rfl (Nat.le_of_ble_eq_true rfl) rfl rfl (Nat.le_of_ble_eq_true rfl) (Nat.le_of_ble_eq_true rfl) rfl) rfl rfl rfl ?_
    refine qev.mono h (fun v _ _ _ h => ?_)
    obtain ⟨r2, rfl, h⟩ := h
    refine ⟨r2, rfl, ?_⟩
    refine e_if (r2 = 0) (pc' := 25) rfl rfl e_d (fun hc => ?_) (fun hc => ?_)
    · replace h := h.1 hc
      refine e_iconst (pc' := 40) rfl rfl kc_m1 ?_
      exact e_iret rfl h
    · replace h := h.2 hc
      refine e_next (pc' := 26) rfl rfl ?_
      refine e_getR (pc' := 29) rfl rfl (hs.o rfl) (hs.a rfl) ?_
      refine e_bipush (pc' := 31) rfl rfl kb_25 ?_
      refine e_next (pc' := 32) rfl rfl ?_
      refine e_next (pc' := 33) rfl rfl ?_
      refine e_iconst (pc' := 34) rfl rfl kc_1 ?_
      refine e_next (pc' := 35) rfl rfl ?_
      obtain ⟨k1, hi_k1, hj_k1, h⟩ := h
      refine e_iald k1 (pc' := 36) rfl rfl (hs.k rfl) hi_k1 hj_k1 (by decide) ?_
      refine e_if (¬ ((qw I 105 0 (nI 0)) 111 k1) = 0) (pc' := 39) rfl rfl e_d (fun hc => ?_) (fun hc => ?_)
      · replace h := h.2 hc
        refine e_next (pc' := 42) rfl rfl ?_
        refine e_next (pc' := 43) rfl rfl ?_
        refine e_iconst (pc' := 44) rfl rfl kc_0 ?_
        refine e_ciV (pc' := 47) rfl (e_sV (as := [_, _]) (fun _ => rfl) (Or.inl rfl) rfl (hs.o rfl) rfl rfl (Nat.le_of_ble_eq_true rfl) (Nat.le_of_ble_eq_true rfl) rfl) rfl rfl ?_
        refine qev.mono h (fun v _ I1 _ h => ?_)
        obtain ⟨rfl, h⟩ := h
        refine ⟨rfl, ?_⟩
        refine e_iconst (pc' := 48) rfl rfl kc_1 ?_
        refine e_next (pc' := 49) rfl rfl ?_
        refine e_next (pc' := 50) rfl rfl ?_
        refine e_next (pc' := 51) rfl rfl ?_
        refine e_iconst (pc' := 52) rfl rfl kc_0 ?_
        refine e_cpI (pc' := 55) rfl (e_sV (as := [_]) (fun _ => rfl) (Or.inl rfl) rfl (hs.o rfl) rfl rfl (Nat.le_of_ble_eq_true rfl) (Nat.le_of_ble_eq_true rfl) rfl) rfl rfl rfl ?_
        refine qev.mono h (fun v _ _ _ h => ?_)
        obtain ⟨r3, rfl, h⟩ := h
        refine ⟨r3, rfl, ?_⟩
        refine e_cpI (pc' := 58) rfl (e_sS (as := [_, _]) (fun _ => rfl) rfl (Nat.le_of_ble_eq_true rfl) rfl rfl (Nat.le_of_ble_eq_true rfl) (Nat.le_of_ble_eq_true rfl) rfl) rfl rfl rfl ?_
        refine qev.mono h (fun v _ _ _ h => ?_)
        obtain ⟨r4, rfl, h⟩ := h
        refine ⟨r4, rfl, ?_⟩
        refine e_next (pc' := 60) (ls' := [_, _, _, _, _]) rfl rfl ?_
        refine e_next (pc' := 61) rfl rfl ?_
        refine e_iconst (pc' := 62) rfl rfl kc_0 ?_
        refine e_bipush (pc' := 64) rfl rfl kb_40 ?_
        refine e_ciV (pc' := 67) rfl (e_sV (as := [_, _]) (fun _ => rfl) (Or.inl rfl) rfl (hs.o rfl) rfl rfl (Nat.le_of_ble_eq_true rfl) (Nat.le_of_ble_eq_true rfl) rfl) rfl rfl ?_
        refine qev.mono h (fun v _ I2 _ h => ?_)
        obtain ⟨rfl, h⟩ := h
        refine ⟨rfl, ?_⟩
        refine e_next (pc' := 68) rfl rfl ?_
        refine e_iconst (pc' := 69) rfl rfl kc_m1 ?_
        refine e_icmp (¬ x3 = (-1)) (pc' := 72) rfl rfl e_d (fun hc => ?_) (fun hc => ?_)
        · replace h := h.2 hc
          refine e_next (pc' := 78) rfl rfl ?_
          refine e_next (pc' := 79) rfl rfl ?_
          refine e_lconst (pc' := 80) rfl rfl kl_0 ?_
          refine e_next (pc' := 82) rfl rfl ?_
          refine e_iconst (pc' := 83) rfl rfl kc_1 ?_
          refine e_next (pc' := 84) rfl rfl ?_
          refine e_next (pc' := 85) rfl rfl ?_
          refine e_cpI (pc' := 88) rfl (e_sS (as := [_, _, _]) (fun _ => rfl) rfl (Nat.le_of_ble_eq_true rfl) rfl rfl (Nat.le_of_ble_eq_true rfl) (Nat.le_of_ble_eq_true rfl) rfl) rfl rfl rfl ?_
          refine qev.mono h (fun v _ _ _ h => ?_)
          obtain ⟨r5, rfl, h⟩ := h
          refine ⟨r5, rfl, ?_⟩
          refine e_if (r5 = 0) (pc' := 91) rfl rfl e_d (fun hc => ?_) (fun hc => ?_)
          · replace h := h.1 hc
            refine e_iconst (pc' := 102) rfl rfl kc_m1 ?_
            exact e_iret rfl h
          · replace h := h.2 hc
            refine e_next (pc' := 92) rfl rfl ?_
            refine e_bipush (pc' := 94) rfl rfl kb_40 ?_
            refine e_next (pc' := 95) rfl rfl ?_
            refine e_cpI (pc' := 98) rfl (e_sV (as := [_, _]) (fun _ => rfl) (Or.inl rfl) rfl (hs.o rfl) rfl rfl (Nat.le_of_ble_eq_true rfl) (Nat.le_of_ble_eq_true rfl) rfl) rfl rfl rfl ?_
            refine qev.mono h (fun v _ _ _ h => ?_)
            obtain ⟨r6, rfl, h⟩ := h
            refine ⟨r6, rfl, ?_⟩
            refine e_next (pc' := 102) rfl rfl ?_
            exact e_iret rfl h
        · replace h := h.1 (Decidable.not_not.mp hc)
          refine e_next (pc' := 74) rfl rfl ?_
          refine e_next (pc' := 102) rfl rfl ?_
          exact e_iret rfl h
      · replace h := h.1 (Decidable.not_not.mp hc)
        refine e_iconst (pc' := 40) rfl rfl kc_m1 ?_
        exact e_iret rfl h
theorem w247 {d : Nat} {x1 : Int32} {x2 : Int32} {x3 : Int32} {x4 : Int32} {g : qG} {I : qI} {J : qJ} {Q : qQ} (hs : qSh g)  (h : (((I 105 7) ≤ 0 → Q (some (.int (nI 0))) g I J) ∧ (¬ (I 105 7) ≤ 0 → qC d 248 [.ref 105, .int x1, .int (nI 0)] g I J (fun v _ I1 _ => ∃ r1, v = some (.int r1) ∧ ((r1 = 0 → Q (some (.int (nI 0))) g I1 J) ∧ (¬ r1 = 0 → qC d 248 [.ref 105, .int x2, .int (nI 1)] g I1 J (fun v _ I2 _ => ∃ r2, v = some (.int r2) ∧ ((r2 = 0 → Q (some (.int (nI 0))) g I2 J) ∧ (¬ r2 = 0 → qC d 248 [.ref 105, .int x3, .int (nI 2)] g I2 J (fun v _ I3 _ => ∃ r3, v = some (.int r3) ∧ ((r3 = 0 → Q (some (.int (nI 0))) g I3 J) ∧ (¬ r3 = 0 → qC d 248 [.ref 105, .int x4, .int (nI 3)] g I3 J (fun v _ I4 _ => ∃ r4, v = some (.int r4) ∧ ((r4 = 0 → Q (some (.int (nI 0))) g I4 J) ∧ (¬ r4 = 0 → Q (some (.int (nI 1))) g I4 J))))))))))))))) : qC (d + 1) 247 [.ref 105, .int x1, .int x2, .int x3, .int x4] g I J Q := by
  show qev (d + 1) 247 (0, [.ref 105, .int x1, .int x2, .int x3, .int x4], [], g, I, J) Q
  refine e_next (pc' := 1) rfl rfl ?_
  refine e_getI (pc' := 4) rfl (Or.inl rfl) rfl (hs.o rfl) ?_
  refine e_if ((I 105 7) ≤ 0) (pc' := 7) rfl rfl e_d (fun hc => ?_) (fun hc => ?_)
  · replace h := h.1 hc
    refine e_iconst (pc' := 49) rfl rfl kc_0 ?_
    exact e_zret rfl (Or.inl nI_0) h
  · replace h := h.2 hc
    refine e_next (pc' := 8) rfl rfl ?_
    refine e_next (pc' := 9) rfl rfl ?_
    refine e_iconst (pc' := 10) rfl rfl kc_0 ?_
    refine e_ciI (pc' := 13) rfl (e_sV (as := [_, _]) (fun _ => rfl) (Or.inl rfl) rfl (hs.o rfl) rfl rfl (Nat.le_of_ble_eq_true rfl) (Nat.le_of_ble_eq_true rfl) rfl) rfl rfl ?_
    refine qev.mono h (fun v _ I1 _ h => ?_)
    obtain ⟨r1, rfl, h⟩ := h
    refine ⟨r1, rfl, ?_⟩
    refine e_if (r1 = 0) (pc' := 16) rfl rfl e_d (fun hc => ?_) (fun hc => ?_)
    · replace h := h.1 hc
      refine e_iconst (pc' := 49) rfl rfl kc_0 ?_
      exact e_zret rfl (Or.inl nI_0) h
    · replace h := h.2 hc
      refine e_next (pc' := 17) rfl rfl ?_
      refine e_next (pc' := 18) rfl rfl ?_
      refine e_iconst (pc' := 19) rfl rfl kc_1 ?_
      refine e_ciI (pc' := 22) rfl (e_sV (as := [_, _]) (fun _ => rfl) (Or.inl rfl) rfl (hs.o rfl) rfl rfl (Nat.le_of_ble_eq_true rfl) (Nat.le_of_ble_eq_true rfl) rfl) rfl rfl ?_
      refine qev.mono h (fun v _ I2 _ h => ?_)
      obtain ⟨r2, rfl, h⟩ := h
      refine ⟨r2, rfl, ?_⟩
      refine e_if (r2 = 0) (pc' := 25) rfl rfl e_d (fun hc => ?_) (fun hc => ?_)
      · replace h := h.1 hc
        refine e_iconst (pc' := 49) rfl rfl kc_0 ?_
        exact e_zret rfl (Or.inl nI_0) h
      · replace h := h.2 hc
        refine e_next (pc' := 26) rfl rfl ?_
        refine e_next (pc' := 27) rfl rfl ?_
        refine e_iconst (pc' := 28) rfl rfl kc_2 ?_
        refine e_ciI (pc' := 31) rfl (e_sV (as := [_, _]) (fun _ => rfl) (Or.inl rfl) rfl (hs.o rfl) rfl rfl (Nat.le_of_ble_eq_true rfl) (Nat.le_of_ble_eq_true rfl) rfl) rfl rfl ?_
        refine qev.mono h (fun v _ I3 _ h => ?_)
        obtain ⟨r3, rfl, h⟩ := h
        refine ⟨r3, rfl, ?_⟩
        refine e_if (r3 = 0) (pc' := 34) rfl rfl e_d (fun hc => ?_) (fun hc => ?_)
        · replace h := h.1 hc
          refine e_iconst (pc' := 49) rfl rfl kc_0 ?_
          exact e_zret rfl (Or.inl nI_0) h
        · replace h := h.2 hc
          refine e_next (pc' := 35) rfl rfl ?_
          refine e_next (pc' := 37) rfl rfl ?_
          refine e_iconst (pc' := 38) rfl rfl kc_3 ?_
          refine e_ciI (pc' := 41) rfl (e_sV (as := [_, _]) (fun _ => rfl) (Or.inl rfl) rfl (hs.o rfl) rfl rfl (Nat.le_of_ble_eq_true rfl) (Nat.le_of_ble_eq_true rfl) rfl) rfl rfl ?_
          refine qev.mono h (fun v _ I4 _ h => ?_)
          obtain ⟨r4, rfl, h⟩ := h
          refine ⟨r4, rfl, ?_⟩
          refine e_if (r4 = 0) (pc' := 44) rfl rfl e_d (fun hc => ?_) (fun hc => ?_)
          · replace h := h.1 hc
            refine e_iconst (pc' := 49) rfl rfl kc_0 ?_
            exact e_zret rfl (Or.inl nI_0) h
          · replace h := h.2 hc
            refine e_iconst (pc' := 45) rfl rfl kc_1 ?_
            refine e_next (pc' := 49) rfl rfl ?_
            exact e_zret rfl (Or.inr nI_one) h
theorem w248 {d : Nat} {x1 : Int32} {x2 : Int32} {g : qG} {I : qI} {J : qJ} {Q : qQ} (hs : qSh g)  (h : ((x1 = (-1) → qC d 187 [.ref 105, .int x2, .int (nI 0)] g I J (fun v _ I2 _ => v = none ∧ ((x1 = (-1) → Q (some (.int (nI 1))) g I2 J) ∧ (¬ x1 = (-1) → qC d 215 [.ref 105, .int x1] g I2 J (fun v _ _ _ => ∃ r4, v = some (.int r4) ∧ ((r4 = 0 → Q (some (.int (nI 0))) g I2 J) ∧ (¬ r4 = 0 → Q (some (.int (nI 1))) g I2 J))))))) ∧ (¬ x1 = (-1) → qC d 215 [.ref 105, .int x1] g I J (fun v _ _ _ => ∃ r1, v = some (.int r1) ∧ ((r1 = 0 → ((x1 = (-1) → Q (some (.int (nI 1))) g I J) ∧ (¬ x1 = (-1) → qC d 215 [.ref 105, .int x1] g I J (fun v _ _ _ => ∃ r2, v = some (.int r2) ∧ ((r2 = 0 → Q (some (.int (nI 0))) g I J) ∧ (¬ r2 = 0 → Q (some (.int (nI 1))) g I J)))))) ∧ (¬ r1 = 0 → qC d 225 [.ref 105, .int x1, .int x2] g I J (fun v _ I1 _ => v = none ∧ ((x1 = (-1) → Q (some (.int (nI 1))) g I1 J) ∧ (¬ x1 = (-1) → qC d 215 [.ref 105, .int x1] g I1 J (fun v _ _ _ => ∃ r3, v = some (.int r3) ∧ ((r3 = 0 → Q (some (.int (nI 0))) g I1 J) ∧ (¬ r3 = 0 → Q (some (.int (nI 1))) g I1 J)))))))))))) : qC (d + 1) 248 [.ref 105, .int x1, .int x2] g I J Q := by
  show qev (d + 1) 248 (0, [.ref 105, .int x1, .int x2], [], g, I, J) Q
  refine e_next (pc' := 1) rfl rfl ?_
  refine e_iconst (pc' := 2) rfl rfl kc_m1 ?_
  refine e_icmp (¬ x1 = (-1)) (pc' := 5) rfl rfl e_d (fun hc => ?_) (fun hc => ?_)
  · replace h := h.2 hc
    refine e_next (pc' := 15) rfl rfl ?_
    refine e_next (pc' := 16) rfl rfl ?_
    refine e_cpI (pc' := 19) rfl (e_sV (as := [_]) (fun _ => rfl) (Or.inl rfl) rfl (hs.o rfl) rfl rfl (Nat.le_of_ble_eq_true rfl) (Nat.le_of_ble_eq_true rfl) rfl) rfl rfl rfl ?_
    refine qev.mono h (fun v _ _ _ h => ?_)
    obtain ⟨r1, rfl, h⟩ := h
    refine ⟨r1, rfl, ?_⟩
    refine e_if (r1 = 0) (pc' := 22) rfl rfl e_d (fun hc => ?_) (fun hc => ?_)
    · replace h := h.1 hc
      refine e_next (pc' := 29) rfl rfl ?_
      refine e_iconst (pc' := 30) rfl rfl kc_m1 ?_
      refine e_icmp (x1 = (-1)) (pc' := 33) rfl rfl e_d (fun hc => ?_) (fun hc => ?_)
      · replace h := h.1 hc
        refine e_iconst (pc' := 42) rfl rfl kc_1 ?_
        refine e_next (pc' := 46) rfl rfl ?_
        exact e_zret rfl (Or.inr nI_one) h
      · replace h := h.2 hc
        refine e_next (pc' := 34) rfl rfl ?_
        refine e_next (pc' := 35) rfl rfl ?_
        refine e_cpI (pc' := 38) rfl (e_sV (as := [_]) (fun _ => rfl) (Or.inl rfl) rfl (hs.o rfl) rfl rfl (Nat.le_of_ble_eq_true rfl) (Nat.le_of_ble_eq_true rfl) rfl) rfl rfl rfl ?_
        refine qev.mono h (fun v _ _ _ h => ?_)
        obtain ⟨r2, rfl, h⟩ := h
        refine ⟨r2, rfl, ?_⟩
        refine e_if (r2 = 0) (pc' := 41) rfl rfl e_d (fun hc => ?_) (fun hc => ?_)
        · replace h := h.1 hc
          refine e_iconst (pc' := 46) rfl rfl kc_0 ?_
          exact e_zret rfl (Or.inl nI_0) h
        · replace h := h.2 hc
          refine e_iconst (pc' := 42) rfl rfl kc_1 ?_
          refine e_next (pc' := 46) rfl rfl ?_
          exact e_zret rfl (Or.inr nI_one) h
    · replace h := h.2 hc
      refine e_next (pc' := 23) rfl rfl ?_
      refine e_next (pc' := 24) rfl rfl ?_
      refine e_next (pc' := 25) rfl rfl ?_
      refine e_ciV (pc' := 28) rfl (e_sV (as := [_, _]) (fun _ => rfl) (Or.inl rfl) rfl (hs.o rfl) rfl rfl (Nat.le_of_ble_eq_true rfl) (Nat.le_of_ble_eq_true rfl) rfl) rfl rfl ?_
      refine qev.mono h (fun v _ I1 _ h => ?_)
      obtain ⟨rfl, h⟩ := h
      refine ⟨rfl, ?_⟩
      refine e_next (pc' := 29) rfl rfl ?_
      refine e_iconst (pc' := 30) rfl rfl kc_m1 ?_
      refine e_icmp (x1 = (-1)) (pc' := 33) rfl rfl e_d (fun hc => ?_) (fun hc => ?_)
      · replace h := h.1 hc
        refine e_iconst (pc' := 42) rfl rfl kc_1 ?_
        refine e_next (pc' := 46) rfl rfl ?_
        exact e_zret rfl (Or.inr nI_one) h
      · replace h := h.2 hc
        refine e_next (pc' := 34) rfl rfl ?_
        refine e_next (pc' := 35) rfl rfl ?_
        refine e_cpI (pc' := 38) rfl (e_sV (as := [_]) (fun _ => rfl) (Or.inl rfl) rfl (hs.o rfl) rfl rfl (Nat.le_of_ble_eq_true rfl) (Nat.le_of_ble_eq_true rfl) rfl) rfl rfl rfl ?_
        refine qev.mono h (fun v _ _ _ h => ?_)
        obtain ⟨r3, rfl, h⟩ := h
        refine ⟨r3, rfl, ?_⟩
        refine e_if (r3 = 0) (pc' := 41) rfl rfl e_d (fun hc => ?_) (fun hc => ?_)
        · replace h := h.1 hc
          refine e_iconst (pc' := 46) rfl rfl kc_0 ?_
          exact e_zret rfl (Or.inl nI_0) h
        · replace h := h.2 hc
          refine e_iconst (pc' := 42) rfl rfl kc_1 ?_
          refine e_next (pc' := 46) rfl rfl ?_
          exact e_zret rfl (Or.inr nI_one) h
  · replace h := h.1 (Decidable.not_not.mp hc)
    refine e_next (pc' := 6) rfl rfl ?_
    refine e_next (pc' := 7) rfl rfl ?_
    refine e_iconst (pc' := 8) rfl rfl kc_0 ?_
    refine e_ciV (pc' := 11) rfl (e_sV (as := [_, _]) (fun _ => rfl) (Or.inl rfl) rfl (hs.o rfl) rfl rfl (Nat.le_of_ble_eq_true rfl) (Nat.le_of_ble_eq_true rfl) rfl) rfl rfl ?_
    refine qev.mono h (fun v _ I2 _ h => ?_)
    obtain ⟨rfl, h⟩ := h
    refine ⟨rfl, ?_⟩
    refine e_next (pc' := 28) rfl rfl ?_
    refine e_next (pc' := 29) rfl rfl ?_
    refine e_iconst (pc' := 30) rfl rfl kc_m1 ?_
    refine e_icmp (x1 = (-1)) (pc' := 33) rfl rfl e_d (fun hc => ?_) (fun hc => ?_)
    · replace h := h.1 hc
      refine e_iconst (pc' := 42) rfl rfl kc_1 ?_
      refine e_next (pc' := 46) rfl rfl ?_
      exact e_zret rfl (Or.inr nI_one) h
    · replace h := h.2 hc
      refine e_next (pc' := 34) rfl rfl ?_
      refine e_next (pc' := 35) rfl rfl ?_
      refine e_cpI (pc' := 38) rfl (e_sV (as := [_]) (fun _ => rfl) (Or.inl rfl) rfl (hs.o rfl) rfl rfl (Nat.le_of_ble_eq_true rfl) (Nat.le_of_ble_eq_true rfl) rfl) rfl rfl rfl ?_
      refine qev.mono h (fun v _ _ _ h => ?_)
      obtain ⟨r4, rfl, h⟩ := h
      refine ⟨r4, rfl, ?_⟩
      refine e_if (r4 = 0) (pc' := 41) rfl rfl e_d (fun hc => ?_) (fun hc => ?_)
      · replace h := h.1 hc
        refine e_iconst (pc' := 46) rfl rfl kc_0 ?_
        exact e_zret rfl (Or.inl nI_0) h
      · replace h := h.2 hc
        refine e_iconst (pc' := 42) rfl rfl kc_1 ?_
        refine e_next (pc' := 46) rfl rfl ?_
        exact e_zret rfl (Or.inr nI_one) h
theorem w249 {d : Nat} {x1 : Int32} {g : qG} {I : qI} {J : qJ} {Q : qQ} (hs : qSh g)  (h : qC d 182 [.ref 105, .int (nI 1), .int (nI 0)] g I J (fun v _ _ _ => ∃ r1, v = some (.int r1) ∧ qC d 182 [.ref 105, .int (nI 2), .int (nI 0)] g I J (fun v _ _ _ => ∃ r2, v = some (.int r2) ∧ qC d 182 [.ref 105, .int (nI 3), .int (nI 0)] g I J (fun v _ _ _ => ∃ r3, v = some (.int r3) ∧ qC d 178 [.ref 105, .long ((Int32.toInt64 x1) * (Int32.toInt64 x1))] g I J (fun v _ _ _ => ∃ r4, v = some (.int r4) ∧ qC d 178 [.ref 105, .long (((Int32.toInt64 r1) + (((lN 2) * (Int32.toInt64 r2)) * (Int32.toInt64 x1))) + (((lN 3) * (Int32.toInt64 r3)) * (Int32.toInt64 r4)))] g I J (fun v _ _ _ => ∃ r5, v = some (.int r5) ∧ Q (some (.int r5)) g I J)))))) : qC (d + 1) 249 [.ref 105, .int x1] g I J Q := by
  show qev (d + 1) 249 (0, [.ref 105, .int x1], [], g, I, J) Q
  refine e_next (pc' := 1) rfl rfl ?_
  refine e_next (pc' := 2) rfl rfl ?_
  refine e_iconst (pc' := 3) rfl rfl kc_1 ?_
  refine e_iconst (pc' := 4) rfl rfl kc_0 ?_
  refine e_cpI (pc' := 7) rfl (e_sV (as := [_, _]) (fun _ => rfl) (Or.inl rfl) rfl (hs.o rfl) rfl rfl (Nat.le_of_ble_eq_true rfl) (Nat.le_of_ble_eq_true rfl) rfl) rfl rfl rfl ?_
  refine qev.mono h (fun v _ _ _ h => ?_)
  obtain ⟨r1, rfl, h⟩ := h
  refine ⟨r1, rfl, ?_⟩
  refine e_next (pc' := 8) rfl rfl ?_
  refine e_ldc2 (pc' := 11) rfl rfl kN_2 ?_
  refine e_next (pc' := 12) rfl rfl ?_
  refine e_iconst (pc' := 13) rfl rfl kc_2 ?_
  refine e_iconst (pc' := 14) rfl rfl kc_0 ?_
  refine e_cpI (pc' := 17) rfl (e_sV (as := [_, _]) (fun _ => rfl) (Or.inl rfl) rfl (hs.o rfl) rfl rfl (Nat.le_of_ble_eq_true rfl) (Nat.le_of_ble_eq_true rfl) rfl) rfl rfl rfl ?_
  refine qev.mono h (fun v _ _ _ h => ?_)
  obtain ⟨r2, rfl, h⟩ := h
  refine ⟨r2, rfl, ?_⟩
  refine e_next (pc' := 18) rfl rfl ?_
  refine e_next (pc' := 19) rfl rfl ?_
  refine e_next (pc' := 20) rfl rfl ?_
  refine e_next (pc' := 21) rfl rfl ?_
  refine e_next (pc' := 22) rfl rfl ?_
  refine e_next (pc' := 23) rfl rfl ?_
  refine e_ldc2 (pc' := 26) rfl rfl kN_3 ?_
  refine e_next (pc' := 27) rfl rfl ?_
  refine e_iconst (pc' := 28) rfl rfl kc_3 ?_
  refine e_iconst (pc' := 29) rfl rfl kc_0 ?_
  refine e_cpI (pc' := 32) rfl (e_sV (as := [_, _]) (fun _ => rfl) (Or.inl rfl) rfl (hs.o rfl) rfl rfl (Nat.le_of_ble_eq_true rfl) (Nat.le_of_ble_eq_true rfl) rfl) rfl rfl rfl ?_
  refine qev.mono h (fun v _ _ _ h => ?_)
  obtain ⟨r3, rfl, h⟩ := h
  refine ⟨r3, rfl, ?_⟩
  refine e_next (pc' := 33) rfl rfl ?_
  refine e_next (pc' := 34) rfl rfl ?_
  refine e_next (pc' := 35) rfl rfl ?_
  refine e_next (pc' := 36) rfl rfl ?_
  refine e_next (pc' := 37) rfl rfl ?_
  refine e_next (pc' := 38) rfl rfl ?_
  refine e_next (pc' := 39) rfl rfl ?_
  refine e_next (pc' := 40) rfl rfl ?_
  refine e_cpI (pc' := 43) rfl (e_sV (as := [_]) (fun _ => rfl) (Or.inl rfl) rfl (hs.o rfl) rfl rfl (Nat.le_of_ble_eq_true rfl) (Nat.le_of_ble_eq_true rfl) rfl) rfl rfl rfl ?_
  refine qev.mono h (fun v _ _ _ h => ?_)
  obtain ⟨r4, rfl, h⟩ := h
  refine ⟨r4, rfl, ?_⟩
  refine e_next (pc' := 44) rfl rfl ?_
  refine e_next (pc' := 45) rfl rfl ?_
  refine e_next (pc' := 46) rfl rfl ?_
  refine e_cpI (pc' := 49) rfl (e_sV (as := [_]) (fun _ => rfl) (Or.inl rfl) rfl (hs.o rfl) rfl rfl (Nat.le_of_ble_eq_true rfl) (Nat.le_of_ble_eq_true rfl) rfl) rfl rfl rfl ?_
  refine qev.mono h (fun v _ _ _ h => ?_)
  obtain ⟨r5, rfl, h⟩ := h
  refine ⟨r5, rfl, ?_⟩
  exact e_iret rfl h
theorem w250 {d : Nat} {x1 : Int32} {g : qG} {I : qI} {J : qJ} {Q : qQ} (hs : qSh g)  (h : qC d 178 [.ref 105, .long ((Int32.toInt64 x1) * (Int32.toInt64 x1))] g I J (fun v _ _ _ => ∃ r1, v = some (.int r1) ∧ qC d 182 [.ref 105, .int (nI 0), .int (nI 0)] g I J (fun v _ _ _ => ∃ r2, v = some (.int r2) ∧ qC d 182 [.ref 105, .int (nI 1), .int (nI 0)] g I J (fun v _ _ _ => ∃ r3, v = some (.int r3) ∧ qC d 182 [.ref 105, .int (nI 2), .int (nI 0)] g I J (fun v _ _ _ => ∃ r4, v = some (.int r4) ∧ qC d 182 [.ref 105, .int (nI 3), .int (nI 0)] g I J (fun v _ _ _ => ∃ r5, v = some (.int r5) ∧ qC d 178 [.ref 105, .long ((Int32.toInt64 r1) * (Int32.toInt64 x1))] g I J (fun v _ _ _ => ∃ r6, v = some (.int r6) ∧ qC d 178 [.ref 105, .long ((((Int32.toInt64 r2) + ((Int32.toInt64 r3) * (Int32.toInt64 x1))) + ((Int32.toInt64 r4) * (Int32.toInt64 r1))) + ((Int32.toInt64 r5) * (Int32.toInt64 r6)))] g I J (fun v _ _ _ => ∃ r7, v = some (.int r7) ∧ ((r7 = 0 → qC d 249 [.ref 105, .int x1] g I J (fun v _ _ _ => ∃ r8, v = some (.int r8) ∧ ((r8 = 0 → Q (some (.int (nI 0))) g I J) ∧ (¬ r8 = 0 → Q (some (.int (nI 1))) g I J)))) ∧ (¬ r7 = 0 → Q (some (.int (nI 0))) g I J)))))))))) : qC (d + 1) 250 [.ref 105, .int x1] g I J Q := by
  show qev (d + 1) 250 (0, [.ref 105, .int x1, qpad, qpad], [], g, I, J) Q
  refine e_next (pc' := 1) rfl rfl ?_
  refine e_next (pc' := 2) rfl rfl ?_
  refine e_next (pc' := 3) rfl rfl ?_
  refine e_next (pc' := 4) rfl rfl ?_
  refine e_next (pc' := 5) rfl rfl ?_
  refine e_next (pc' := 6) rfl rfl ?_
  refine e_cpI (pc' := 9) rfl (e_sV (as := [_]) (fun _ => rfl) (Or.inl rfl) rfl (hs.o rfl) rfl rfl (Nat.le_of_ble_eq_true rfl) (Nat.le_of_ble_eq_true rfl) rfl) rfl rfl rfl ?_
  refine qev.mono h (fun v _ _ _ h => ?_)
  obtain ⟨r1, rfl, h⟩ := h
  refine ⟨r1, rfl, ?_⟩
  refine e_next (pc' := 10) rfl rfl ?_
  refine e_next (pc' := 11) (ls' := [_, _, _, _]) rfl rfl ?_
  refine e_next (pc' := 12) rfl rfl ?_
  refine e_next (pc' := 13) rfl rfl ?_
  refine e_iconst (pc' := 14) rfl rfl kc_0 ?_
  refine e_iconst (pc' := 15) rfl rfl kc_0 ?_
  refine e_cpI (pc' := 18) rfl (e_sV (as := [_, _]) (fun _ => rfl) (Or.inl rfl) rfl (hs.o rfl) rfl rfl (Nat.le_of_ble_eq_true rfl) (Nat.le_of_ble_eq_true rfl) rfl) rfl rfl rfl ?_
  refine qev.mono h (fun v _ _ _ h => ?_)
  obtain ⟨r2, rfl, h⟩ := h
  refine ⟨r2, rfl, ?_⟩
  refine e_next (pc' := 19) rfl rfl ?_
  refine e_next (pc' := 20) rfl rfl ?_
  refine e_iconst (pc' := 21) rfl rfl kc_1 ?_
  refine e_iconst (pc' := 22) rfl rfl kc_0 ?_
  refine e_cpI (pc' := 25) rfl (e_sV (as := [_, _]) (fun _ => rfl) (Or.inl rfl) rfl (hs.o rfl) rfl rfl (Nat.le_of_ble_eq_true rfl) (Nat.le_of_ble_eq_true rfl) rfl) rfl rfl rfl ?_
  refine qev.mono h (fun v _ _ _ h => ?_)
  obtain ⟨r3, rfl, h⟩ := h
  refine ⟨r3, rfl, ?_⟩
  refine e_next (pc' := 26) rfl rfl ?_
  refine e_next (pc' := 27) rfl rfl ?_
  refine e_next (pc' := 28) rfl rfl ?_
  refine e_next (pc' := 29) rfl rfl ?_
  refine e_next (pc' := 30) rfl rfl ?_
  refine e_next (pc' := 31) rfl rfl ?_
  refine e_iconst (pc' := 32) rfl rfl kc_2 ?_
  refine e_iconst (pc' := 33) rfl rfl kc_0 ?_
  refine e_cpI (pc' := 36) rfl (e_sV (as := [_, _]) (fun _ => rfl) (Or.inl rfl) rfl (hs.o rfl) rfl rfl (Nat.le_of_ble_eq_true rfl) (Nat.le_of_ble_eq_true rfl) rfl) rfl rfl rfl ?_
  refine qev.mono h (fun v _ _ _ h => ?_)
  obtain ⟨r4, rfl, h⟩ := h
  refine ⟨r4, rfl, ?_⟩
  refine e_next (pc' := 37) rfl rfl ?_
  refine e_next (pc' := 38) rfl rfl ?_
  refine e_next (pc' := 39) rfl rfl ?_
  refine e_next (pc' := 40) rfl rfl ?_
  refine e_next (pc' := 41) rfl rfl ?_
  refine e_iconst (pc' := 42) rfl rfl kc_3 ?_
  refine e_iconst (pc' := 43) rfl rfl kc_0 ?_
  refine e_cpI (pc' := 46) rfl (e_sV (as := [_, _]) (fun _ => rfl) (Or.inl rfl) rfl (hs.o rfl) rfl rfl (Nat.le_of_ble_eq_true rfl) (Nat.le_of_ble_eq_true rfl) rfl) rfl rfl rfl ?_
  refine qev.mono h (fun v _ _ _ h => ?_)
  obtain ⟨r5, rfl, h⟩ := h
  refine ⟨r5, rfl, ?_⟩
  refine e_next (pc' := 47) rfl rfl ?_
  refine e_next (pc' := 48) rfl rfl ?_
  refine e_next (pc' := 49) rfl rfl ?_
  refine e_next (pc' := 50) rfl rfl ?_
  refine e_next (pc' := 51) rfl rfl ?_
  refine e_next (pc' := 52) rfl rfl ?_
  refine e_cpI (pc' := 55) rfl (e_sV (as := [_]) (fun _ => rfl) (Or.inl rfl) rfl (hs.o rfl) rfl rfl (Nat.le_of_ble_eq_true rfl) (Nat.le_of_ble_eq_true rfl) rfl) rfl rfl rfl ?_
  refine qev.mono h (fun v _ _ _ h => ?_)
  obtain ⟨r6, rfl, h⟩ := h
  refine ⟨r6, rfl, ?_⟩
  refine e_next (pc' := 56) rfl rfl ?_
  refine e_next (pc' := 57) rfl rfl ?_
  refine e_next (pc' := 58) rfl rfl ?_
  refine e_cpI (pc' := 61) rfl (e_sV (as := [_]) (fun _ => rfl) (Or.inl rfl) rfl (hs.o rfl) rfl rfl (Nat.le_of_ble_eq_true rfl) (Nat.le_of_ble_eq_true rfl) rfl) rfl rfl rfl ?_
  refine qev.mono h (fun v _ _ _ h => ?_)
  obtain ⟨r7, rfl, h⟩ := h
  refine ⟨r7, rfl, ?_⟩
  refine e_if (¬ r7 = 0) (pc' := 64) rfl rfl e_d (fun hc => ?_) (fun hc => ?_)
  · replace h := h.2 hc
    refine e_iconst (pc' := 77) rfl rfl kc_0 ?_
    exact e_zret rfl (Or.inl nI_0) h
  · replace h := h.1 (Decidable.not_not.mp hc)
    refine e_next (pc' := 65) rfl rfl ?_
    refine e_next (pc' := 66) rfl rfl ?_
    refine e_cpI (pc' := 69) rfl (e_sV (as := [_]) (fun _ => rfl) (Or.inl rfl) rfl (hs.o rfl) rfl rfl (Nat.le_of_ble_eq_true rfl) (Nat.le_of_ble_eq_true rfl) rfl) rfl rfl rfl ?_
    refine qev.mono h (fun v _ _ _ h => ?_)
    obtain ⟨r8, rfl, h⟩ := h
    refine ⟨r8, rfl, ?_⟩
    refine e_if (r8 = 0) (pc' := 72) rfl rfl e_d (fun hc => ?_) (fun hc => ?_)
    · replace h := h.1 hc
      refine e_iconst (pc' := 77) rfl rfl kc_0 ?_
      exact e_zret rfl (Or.inl nI_0) h
    · replace h := h.2 hc
      refine e_iconst (pc' := 73) rfl rfl kc_1 ?_
      refine e_next (pc' := 77) rfl rfl ?_
      exact e_zret rfl (Or.inr nI_one) h
theorem w251 {d : Nat} {x1 : Int32} {g : qG} {I : qI} {J : qJ} {Q : qQ} (hs : qSh g)  (h : qC d 192 [.ref 105, .int (nI 40), .int (nI 40), .int (nI 41), .int (x1 + (nI 1))] g I J (fun v _ I1 _ => v = none ∧ qC d 192 [.ref 105, .int (nI 41), .int (nI 40), .int (nI 42), .int (x1 + (nI 1))] g I1 J (fun v _ I2 _ => v = none ∧ qC d 182 [.ref 105, .int (nI 0), .int x1] g I2 J (fun v _ _ _ => ∃ r1, v = some (.int r1) ∧ qC d 188 [.ref 105, .int (nI 1), .int (nI 40), .int x1] g I2 J (fun v _ _ _ => ∃ r2, v = some (.long r2) ∧ qC d 188 [.ref 105, .int (nI 2), .int (nI 41), .int x1] g I2 J (fun v _ _ _ => ∃ r3, v = some (.long r3) ∧ qC d 188 [.ref 105, .int (nI 3), .int (nI 42), .int x1] g I2 J (fun v _ _ _ => ∃ r4, v = some (.long r4) ∧ qC d 178 [.ref 105, .long ((((Int32.toInt64 r1) + r2) + r3) + r4)] g I2 J (fun v _ _ _ => ∃ r5, v = some (.int r5) ∧ Q (some (.int r5)) g I2 J)))))))) : qC (d + 1) 251 [.ref 105, .int x1] g I J Q := by
  show qev (d + 1) 251 (0, [.ref 105, .int x1], [], g, I, J) Q
  refine e_next (pc' := 1) rfl rfl ?_
  refine e_bipush (pc' := 3) rfl rfl kb_40 ?_
  refine e_bipush (pc' := 5) rfl rfl kb_40 ?_
  refine e_bipush (pc' := 7) rfl rfl kb_41 ?_
  refine e_next (pc' := 8) rfl rfl ?_
  refine e_iconst (pc' := 9) rfl rfl kc_1 ?_
  refine e_next (pc' := 10) rfl rfl ?_
  refine e_ciV (pc' := 13) rfl (e_sV (as := [_, _, _, _]) (fun _ => rfl) (Or.inl rfl) rfl (hs.o rfl) rfl rfl (Nat.le_of_ble_eq_true rfl) (Nat.le_of_ble_eq_true rfl) rfl) rfl rfl ?_
  refine qev.mono h (fun v _ I1 _ h => ?_)
  obtain ⟨rfl, h⟩ := h
  refine ⟨rfl, ?_⟩
  refine e_next (pc' := 14) rfl rfl ?_
  refine e_bipush (pc' := 16) rfl rfl kb_41 ?_
  refine e_bipush (pc' := 18) rfl rfl kb_40 ?_
  refine e_bipush (pc' := 20) rfl rfl kb_42 ?_
  refine e_next (pc' := 21) rfl rfl ?_
  refine e_iconst (pc' := 22) rfl rfl kc_1 ?_
  refine e_next (pc' := 23) rfl rfl ?_
  refine e_ciV (pc' := 26) rfl (e_sV (as := [_, _, _, _]) (fun _ => rfl) (Or.inl rfl) rfl (hs.o rfl) rfl rfl (Nat.le_of_ble_eq_true rfl) (Nat.le_of_ble_eq_true rfl) rfl) rfl rfl ?_
  refine qev.mono h (fun v _ I2 _ h => ?_)
  obtain ⟨rfl, h⟩ := h
  refine ⟨rfl, ?_⟩
  refine e_next (pc' := 27) rfl rfl ?_
  refine e_next (pc' := 28) rfl rfl ?_
  refine e_iconst (pc' := 29) rfl rfl kc_0 ?_
  refine e_next (pc' := 30) rfl rfl ?_
  refine e_cpI (pc' := 33) rfl (e_sV (as := [_, _]) (fun _ => rfl) (Or.inl rfl) rfl (hs.o rfl) rfl rfl (Nat.le_of_ble_eq_true rfl) (Nat.le_of_ble_eq_true rfl) rfl) rfl rfl rfl ?_
  refine qev.mono h (fun v _ _ _ h => ?_)
  obtain ⟨r1, rfl, h⟩ := h
  refine ⟨r1, rfl, ?_⟩
  refine e_next (pc' := 34) rfl rfl ?_
  refine e_next (pc' := 35) rfl rfl ?_
  refine e_iconst (pc' := 36) rfl rfl kc_1 ?_
  refine e_bipush (pc' := 38) rfl rfl kb_40 ?_
  refine e_next (pc' := 39) rfl rfl ?_
  refine e_cpL (pc' := 42) rfl (e_sV (as := [_, _, _]) (fun _ => rfl) (Or.inl rfl) rfl (hs.o rfl) rfl rfl (Nat.le_of_ble_eq_true rfl) (Nat.le_of_ble_eq_true rfl) rfl) rfl rfl rfl ?_
  refine qev.mono h (fun v _ _ _ h => ?_)
  obtain ⟨r2, rfl, h⟩ := h
  refine ⟨r2, rfl, ?_⟩
  refine e_next (pc' := 43) rfl rfl ?_
  refine e_next (pc' := 44) rfl rfl ?_
  refine e_iconst (pc' := 45) rfl rfl kc_2 ?_
  refine e_bipush (pc' := 47) rfl rfl kb_41 ?_
  refine e_next (pc' := 48) rfl rfl ?_
  refine e_cpL (pc' := 51) rfl (e_sV (as := [_, _, _]) (fun _ => rfl) (Or.inl rfl) rfl (hs.o rfl) rfl rfl (Nat.le_of_ble_eq_true rfl) (Nat.le_of_ble_eq_true rfl) rfl) rfl rfl rfl ?_
  refine qev.mono h (fun v _ _ _ h => ?_)
  obtain ⟨r3, rfl, h⟩ := h
  refine ⟨r3, rfl, ?_⟩
  refine e_next (pc' := 52) rfl rfl ?_
  refine e_next (pc' := 53) rfl rfl ?_
  refine e_iconst (pc' := 54) rfl rfl kc_3 ?_
  refine e_bipush (pc' := 56) rfl rfl kb_42 ?_
  refine e_next (pc' := 57) rfl rfl ?_
  refine e_cpL (pc' := 60) rfl (e_sV (as := [_, _, _]) (fun _ => rfl) (Or.inl rfl) rfl (hs.o rfl) rfl rfl (Nat.le_of_ble_eq_true rfl) (Nat.le_of_ble_eq_true rfl) rfl) rfl rfl rfl ?_
  refine qev.mono h (fun v _ _ _ h => ?_)
  obtain ⟨r4, rfl, h⟩ := h
  refine ⟨r4, rfl, ?_⟩
  refine e_next (pc' := 61) rfl rfl ?_
  refine e_cpI (pc' := 64) rfl (e_sV (as := [_]) (fun _ => rfl) (Or.inl rfl) rfl (hs.o rfl) rfl rfl (Nat.le_of_ble_eq_true rfl) (Nat.le_of_ble_eq_true rfl) rfl) rfl rfl rfl ?_
  refine qev.mono h (fun v _ _ _ h => ?_)
  obtain ⟨r5, rfl, h⟩ := h
  refine ⟨r5, rfl, ?_⟩
  exact e_iret rfl h
theorem w252 {d : Nat} {x1 : Int32} {x2 : Int32} {x3 : Int32} {x4 : Int32} {x5 : Int32} {x6 : Int32} {g : qG} {I : qI} {J : qJ} {Q : qQ} (hs : qSh g)  (h : qC d 247 [.ref 105, .int x1, .int x2, .int x3, .int x4] g (qw I 105 0 (nI 0)) J (fun v _ I1 _ => ∃ r1, v = some (.int r1) ∧ ((r1 = 0 → Q (some (.int (-1))) g I1 J) ∧ (¬ r1 = 0 → qC d 147 [.long (Int32.toInt64 x5), .long (lN 0), .long (Int32.toInt64 ((I1 105 7) - (nI 1)))] g I1 J (fun v _ _ _ => ∃ r2, v = some (.int r2) ∧ ((r2 = 0 → Q (some (.int (-1))) g I1 J) ∧ (¬ r2 = 0 → qC d 250 [.ref 105, .int x5] g I1 J (fun v _ _ _ => ∃ r3, v = some (.int r3) ∧ ((r3 = 0 → Q (some (.int (-1))) g I1 J) ∧ (¬ r3 = 0 → qC d 180 [.ref 105, .int (nI 0)] g I1 J (fun v _ _ _ => ∃ r4, v = some (.int r4) ∧ qC d 180 [.ref 105, .int (nI 1)] g I1 J (fun v _ _ _ => ∃ r5, v = some (.int r5) ∧ qC d 186 [.int r4, .int r5] g I1 J (fun v _ _ _ => ∃ r6, v = some (.int r6) ∧ qC d 180 [.ref 105, .int (nI 2)] g I1 J (fun v _ _ _ => ∃ r7, v = some (.int r7) ∧ qC d 180 [.ref 105, .int (nI 3)] g I1 J (fun v _ _ _ => ∃ r8, v = some (.int r8) ∧ qC d 186 [.int r7, .int r8] g I1 J (fun v _ _ _ => ∃ r9, v = some (.int r9) ∧ qC d 186 [.int r6, .int r9] g I1 J (fun v _ _ _ => ∃ r10, v = some (.int r10) ∧ ((x6 = (-1) → Q (some (.int r10)) g I1 J) ∧ (¬ x6 = (-1) → qC d 147 [.long (Int32.toInt64 x6), .long (lN 0), .long (Int32.toInt64 (r10 - (nI 1)))] g I1 J (fun v _ _ _ => ∃ r11, v = some (.int r11) ∧ ((r11 = 0 → Q (some (.int (-1))) g I1 J) ∧ (¬ r11 = 0 → qC d 249 [.ref 105, .int x5] g I1 J (fun v _ _ _ => ∃ r12, v = some (.int r12) ∧ qC d 179 [.ref 105, .int r12] g I1 J (fun v _ _ _ => ∃ r13, v = some (.int r13) ∧ qC d 193 [.ref 105, .int (nI 40), .int r10] g I1 J (fun v _ I2 _ => v = none ∧ qC d 183 [.ref 105, .int (nI 40), .int (nI 0), .int x5] g I2 J (fun v _ I3 _ => v = none ∧ qev (d + 1) 252 (134, [.ref 105, .int x1, .int x2, .int x3, .int x4, .int x5, .int x6, .int r10, .int r13, .int (nI 1)], [], g, I3, J) Q)))))))))))))))))))))))))) : qC (d + 1) 252 [.ref 105, .int x1, .int x2, .int x3, .int x4, .int x5, .int x6] g I J Q := by
  show qev (d + 1) 252 (0, [.ref 105, .int x1, .int x2, .int x3, .int x4, .int x5, .int x6, qpad, qpad, qpad], [], g, I, J) Q
  refine e_next (pc' := 1) rfl rfl ?_
  refine e_iconst (pc' := 2) rfl rfl kc_0 ?_
  refine e_putI (pc' := 5) rfl rfl (hs.o rfl) ?_
  refine e_next (pc' := 6) rfl rfl ?_
  refine e_next (pc' := 7) rfl rfl ?_
  refine e_next (pc' := 8) rfl rfl ?_
  refine e_next (pc' := 9) rfl rfl ?_
  refine e_next (pc' := 11) rfl rfl ?_
  refine e_ciI (pc' := 14) rfl (e_sV (as := [_, _, _, _]) (fun _ => rfl) (Or.inl rfl) rfl (hs.o rfl) rfl rfl (Nat.le_of_ble_eq_true rfl) (Nat.le_of_ble_eq_true rfl) rfl) rfl rfl ?_
  refine qev.mono h (fun v _ I1 _ h => ?_)
  obtain ⟨r1, rfl, h⟩ := h
  refine ⟨r1, rfl, ?_⟩
  refine e_if (r1 = 0) (pc' := 17) rfl rfl e_d (fun hc => ?_) (fun hc => ?_)
  · replace h := h.1 hc
    refine e_iconst (pc' := 44) rfl rfl kc_m1 ?_
    exact e_iret rfl h
  · replace h := h.2 hc
    refine e_next (pc' := 19) rfl rfl ?_
    refine e_next (pc' := 20) rfl rfl ?_
    refine e_lconst (pc' := 21) rfl rfl kl_0 ?_
    refine e_next (pc' := 22) rfl rfl ?_
    refine e_getI (pc' := 25) rfl (Or.inl rfl) rfl (hs.o rfl) ?_
    refine e_iconst (pc' := 26) rfl rfl kc_1 ?_
    refine e_next (pc' := 27) rfl rfl ?_
    refine e_next (pc' := 28) rfl rfl ?_
    refine e_cpI (pc' := 31) rfl (e_sS (as := [_, _, _]) (fun _ => rfl) rfl (Nat.le_of_ble_eq_true rfl) rfl rfl (Nat.le_of_ble_eq_true rfl) (Nat.le_of_ble_eq_true rfl) rfl) rfl rfl rfl ?_
    refine qev.mono h (fun v _ _ _ h => ?_)
    obtain ⟨r2, rfl, h⟩ := h
    refine ⟨r2, rfl, ?_⟩
    refine e_if (r2 = 0) (pc' := 34) rfl rfl e_d (fun hc => ?_) (fun hc => ?_)
    · replace h := h.1 hc
      refine e_iconst (pc' := 44) rfl rfl kc_m1 ?_
      exact e_iret rfl h
    · replace h := h.2 hc
      refine e_next (pc' := 35) rfl rfl ?_
      refine e_next (pc' := 37) rfl rfl ?_
      refine e_cpI (pc' := 40) rfl (e_sV (as := [_]) (fun _ => rfl) (Or.inl rfl) rfl (hs.o rfl) rfl rfl (Nat.le_of_ble_eq_true rfl) (Nat.le_of_ble_eq_true rfl) rfl) rfl rfl rfl ?_
      refine qev.mono h (fun v _ _ _ h => ?_)
      obtain ⟨r3, rfl, h⟩ := h
      refine ⟨r3, rfl, ?_⟩
      refine e_if (¬ r3 = 0) (pc' := 43) rfl rfl e_d (fun hc => ?_) (fun hc => ?_)
      · replace h := h.2 hc
        refine e_next (pc' := 46) rfl rfl ?_
        refine e_iconst (pc' := 47) rfl rfl kc_0 ?_
        refine e_cpI (pc' := 50) rfl (e_sV (as := [_]) (fun _ => rfl) (Or.inl rfl) rfl (hs.o rfl) rfl rfl (Nat.le_of_ble_eq_true rfl) (Nat.le_of_ble_eq_true rfl) rfl) rfl rfl rfl ?_
        refine qev.mono h (fun v _ _ _ h => ?_)
        obtain ⟨r4, rfl, h⟩ := h
        refine ⟨r4, rfl, ?_⟩
        refine e_next (pc' := 51) rfl rfl ?_
        refine e_iconst (pc' := 52) rfl rfl kc_1 ?_
        refine e_cpI (pc' := 55) rfl (e_sV (as := [_]) (fun _ => rfl) (Or.inl rfl) rfl (hs.o rfl) rfl rfl (Nat.le_of_ble_eq_true rfl) (Nat.le_of_ble_eq_true rfl) rfl) rfl rfl rfl ?_
        refine qev.mono h (fun v _ _ _ h => ?_)
        obtain ⟨r5, rfl, h⟩ := h
        refine ⟨r5, rfl, ?_⟩
        refine e_cpI (pc' := 58) rfl (e_sS (as := [_, _]) (fun _ => rfl) rfl (Nat.le_of_ble_eq_true rfl) rfl rfl (Nat.le_of_ble_eq_true rfl) (Nat.le_of_ble_eq_true rfl) rfl) rfl rfl rfl ?_
        refine qev.mono h (fun v _ _ _ h => ?_)
        obtain ⟨r6, rfl, h⟩ := h
        refine ⟨r6, rfl, ?_⟩
        refine e_next (pc' := 59) rfl rfl ?_
        refine e_iconst (pc' := 60) rfl rfl kc_2 ?_
        refine e_cpI (pc' := 63) rfl (e_sV (as := [_]) (fun _ => rfl) (Or.inl rfl) rfl (hs.o rfl) rfl rfl (Nat.le_of_ble_eq_true rfl) (Nat.le_of_ble_eq_true rfl) rfl) rfl rfl rfl ?_
        refine qev.mono h (fun v _ _ _ h => ?_)
        obtain ⟨r7, rfl, h⟩ := h
        refine ⟨r7, rfl, ?_⟩
        refine e_next (pc' := 64) rfl rfl ?_
        refine e_iconst (pc' := 65) rfl rfl kc_3 ?_
        refine e_cpI (pc' := 68) rfl (e_sV (as := [_]) (fun _ => rfl) (Or.inl rfl) rfl (hs.o rfl) rfl rfl (Nat.le_of_ble_eq_true rfl) (Nat.le_of_ble_eq_true rfl) rfl) rfl rfl rfl ?_
        refine qev.mono h (fun v _ _ _ h => ?_)
        obtain ⟨r8, rfl, h⟩ := h
        refine ⟨r8, rfl, ?_⟩
        refine e_cpI (pc' := 71) rfl (e_sS (as := [_, _]) (fun _ => rfl) rfl (Nat.le_of_ble_eq_true rfl) rfl rfl (Nat.le_of_ble_eq_true rfl) (Nat.le_of_ble_eq_true rfl) rfl) rfl rfl rfl ?_
        refine qev.mono h (fun v _ _ _ h => ?_)
        obtain ⟨r9, rfl, h⟩ := h
        refine ⟨r9, rfl, ?_⟩
        refine e_cpI (pc' := 74) rfl (e_sS (as := [_, _]) (fun _ => rfl) rfl (Nat.le_of_ble_eq_true rfl) rfl rfl (Nat.le_of_ble_eq_true rfl) (Nat.le_of_ble_eq_true rfl) rfl) rfl rfl rfl ?_
        refine qev.mono h (fun v _ _ _ h => ?_)
        obtain ⟨r10, rfl, h⟩ := h
        refine ⟨r10, rfl, ?_⟩
        refine e_next (pc' := 76) (ls' := [_, _, _, _, _, _, _, _, _, _]) rfl rfl ?_
        refine e_next (pc' := 78) rfl rfl ?_
        refine e_iconst (pc' := 79) rfl rfl kc_m1 ?_
        refine e_icmp (¬ x6 = (-1)) (pc' := 82) rfl rfl e_d (fun hc => ?_) (fun hc => ?_)
        · replace h := h.2 hc
          refine e_next (pc' := 87) rfl rfl ?_
          refine e_next (pc' := 88) rfl rfl ?_
          refine e_lconst (pc' := 89) rfl rfl kl_0 ?_
          refine e_next (pc' := 91) rfl rfl ?_
          refine e_iconst (pc' := 92) rfl rfl kc_1 ?_
          refine e_next (pc' := 93) rfl rfl ?_
          refine e_next (pc' := 94) rfl rfl ?_
          refine e_cpI (pc' := 97) rfl (e_sS (as := [_, _, _]) (fun _ => rfl) rfl (Nat.le_of_ble_eq_true rfl) rfl rfl (Nat.le_of_ble_eq_true rfl) (Nat.le_of_ble_eq_true rfl) rfl) rfl rfl rfl ?_
          refine qev.mono h (fun v _ _ _ h => ?_)
          obtain ⟨r11, rfl, h⟩ := h
          refine ⟨r11, rfl, ?_⟩
          refine e_if (¬ r11 = 0) (pc' := 100) rfl rfl e_d (fun hc => ?_) (fun hc => ?_)
          · replace h := h.2 hc
            refine e_next (pc' := 103) rfl rfl ?_
            refine e_next (pc' := 104) rfl rfl ?_
            refine e_next (pc' := 106) rfl rfl ?_
            refine e_cpI (pc' := 109) rfl (e_sV (as := [_]) (fun _ => rfl) (Or.inl rfl) rfl (hs.o rfl) rfl rfl (Nat.le_of_ble_eq_true rfl) (Nat.le_of_ble_eq_true rfl) rfl) rfl rfl rfl ?_
            refine qev.mono h (fun v _ _ _ h => ?_)
            obtain ⟨r12, rfl, h⟩ := h
            refine ⟨r12, rfl, ?_⟩
            refine e_cpI (pc' := 112) rfl (e_sV (as := [_]) (fun _ => rfl) (Or.inl rfl) rfl (hs.o rfl) rfl rfl (Nat.le_of_ble_eq_true rfl) (Nat.le_of_ble_eq_true rfl) rfl) rfl rfl rfl ?_
            refine qev.mono h (fun v _ _ _ h => ?_)
            obtain ⟨r13, rfl, h⟩ := h
            refine ⟨r13, rfl, ?_⟩
            refine e_next (pc' := 114) (ls' := [_, _, _, _, _, _, _, _, _, _]) rfl rfl ?_
            refine e_next (pc' := 115) rfl rfl ?_
            refine e_bipush (pc' := 117) rfl rfl kb_40 ?_
            refine e_next (pc' := 119) rfl rfl ?_
            refine e_ciV (pc' := 122) rfl (e_sV (as := [_, _]) (fun _ => rfl) (Or.inl rfl) rfl (hs.o rfl) rfl rfl (Nat.le_of_ble_eq_true rfl) (Nat.le_of_ble_eq_true rfl) rfl) rfl rfl ?_
            refine qev.mono h (fun v _ I2 _ h => ?_)
            obtain ⟨rfl, h⟩ := h
            refine ⟨rfl, ?_⟩
            refine e_next (pc' := 123) rfl rfl ?_
            refine e_bipush (pc' := 125) rfl rfl kb_40 ?_
            refine e_iconst (pc' := 126) rfl rfl kc_0 ?_
            refine e_next (pc' := 128) rfl rfl ?_
            refine e_ciV (pc' := 131) rfl (e_sV (as := [_, _, _]) (fun _ => rfl) (Or.inl rfl) rfl (hs.o rfl) rfl rfl (Nat.le_of_ble_eq_true rfl) (Nat.le_of_ble_eq_true rfl) rfl) rfl rfl ?_
            refine qev.mono h (fun v _ I3 _ h => ?_)
            obtain ⟨rfl, h⟩ := h
            refine ⟨rfl, ?_⟩
            refine e_iconst (pc' := 132) rfl rfl kc_1 ?_
            refine e_next (pc' := 134) (ls' := [_, _, _, _, _, _, _, _, _, _]) rfl rfl ?_
            exact h
          · replace h := h.1 (Decidable.not_not.mp hc)
            refine e_iconst (pc' := 101) rfl rfl kc_m1 ?_
            exact e_iret rfl h
        · replace h := h.1 (Decidable.not_not.mp hc)
          refine e_next (pc' := 84) rfl rfl ?_
          exact e_iret rfl h
      · replace h := h.1 (Decidable.not_not.mp hc)
        refine e_iconst (pc' := 44) rfl rfl kc_m1 ?_
        exact e_iret rfl h
theorem w252_134 {d : Nat} {i1 : Int32} {i2 : Int32} {i3 : Int32} {i4 : Int32} {i5 : Int32} {i6 : Int32} {i7 : Int32} {i8 : Int32} {i9 : Int32} {g : qG} {I : qI} {J : qJ} {Q : qQ} (hs : qSh g)  (h : ((i6 < i9 → qC d 182 [.ref 105, .int (nI 40), .int i6] g I J (fun v _ _ _ => ∃ r1, v = some (.int r1) ∧ Q (some (.int r1)) g I J)) ∧ (¬ i6 < i9 → qC d 251 [.ref 105, .int i9] g I J (fun v _ I1 _ => ∃ r2, v = some (.int r2) ∧ qC d 178 [.ref 105, .long ((-(Int32.toInt64 r2)) * (Int32.toInt64 i8))] g I1 J (fun v _ _ _ => ∃ r3, v = some (.int r3) ∧ qC d 183 [.ref 105, .int (nI 40), .int i9, .int r3] g I1 J (fun v _ I2 _ => v = none ∧ qev (d + 1) 252 (134, [.ref 105, .int i1, .int i2, .int i3, .int i4, .int i5, .int i6, .int i7, .int i8, .int (i9 + (nI 1))], [], g, I2, J) Q)))))) : qev (d + 1) 252 (134, [.ref 105, .int i1, .int i2, .int i3, .int i4, .int i5, .int i6, .int i7, .int i8, .int i9], [], g, I, J) Q := by
  refine e_next (pc' := 136) rfl rfl ?_
  refine e_next (pc' := 138) rfl rfl ?_
  refine e_icmp (i6 < i9) (pc' := 141) rfl rfl e_d (fun hc => ?_) (fun hc => ?_)
  · replace h := h.1 hc
    refine e_next (pc' := 172) rfl rfl ?_
    refine e_bipush (pc' := 174) rfl rfl kb_40 ?_
    refine e_next (pc' := 176) rfl rfl ?_
    refine e_cpI (pc' := 179) rfl (e_sV (as := [_, _]) (fun _ => rfl) (Or.inl rfl) rfl (hs.o rfl) rfl rfl (Nat.le_of_ble_eq_true rfl) (Nat.le_of_ble_eq_true rfl) rfl) rfl rfl rfl ?_
    refine qev.mono h (fun v _ _ _ h => ?_)
    obtain ⟨r1, rfl, h⟩ := h
    refine ⟨r1, rfl, ?_⟩
    exact e_iret rfl h
  · replace h := h.2 hc
    refine e_next (pc' := 142) rfl rfl ?_
    refine e_bipush (pc' := 144) rfl rfl kb_40 ?_
    refine e_next (pc' := 146) rfl rfl ?_
    refine e_next (pc' := 147) rfl rfl ?_
    refine e_next (pc' := 148) rfl rfl ?_
    refine e_next (pc' := 150) rfl rfl ?_
    refine e_ciI (pc' := 153) rfl (e_sV (as := [_]) (fun _ => rfl) (Or.inl rfl) rfl (hs.o rfl) rfl rfl (Nat.le_of_ble_eq_true rfl) (Nat.le_of_ble_eq_true rfl) rfl) rfl rfl ?_
    refine qev.mono h (fun v _ I1 _ h => ?_)
    obtain ⟨r2, rfl, h⟩ := h
    refine ⟨r2, rfl, ?_⟩
    refine e_next (pc' := 154) rfl rfl ?_
    refine e_next (pc' := 155) rfl rfl ?_
    refine e_next (pc' := 157) rfl rfl ?_
    refine e_next (pc' := 158) rfl rfl ?_
    refine e_next (pc' := 159) rfl rfl ?_
    refine e_cpI (pc' := 162) rfl (e_sV (as := [_]) (fun _ => rfl) (Or.inl rfl) rfl (hs.o rfl) rfl rfl (Nat.le_of_ble_eq_true rfl) (Nat.le_of_ble_eq_true rfl) rfl) rfl rfl rfl ?_
    refine qev.mono h (fun v _ _ _ h => ?_)
    obtain ⟨r3, rfl, h⟩ := h
    refine ⟨r3, rfl, ?_⟩
    refine e_ciV (pc' := 165) rfl (e_sV (as := [_, _, _]) (fun _ => rfl) (Or.inl rfl) rfl (hs.o rfl) rfl rfl (Nat.le_of_ble_eq_true rfl) (Nat.le_of_ble_eq_true rfl) rfl) rfl rfl ?_
    refine qev.mono h (fun v _ I2 _ h => ?_)
    obtain ⟨rfl, h⟩ := h
    refine ⟨rfl, ?_⟩
    refine e_iinc (pc' := 168) (ls' := [_, _, _, _, _, _, _, _, _, _]) (v := (nI 1)) rfl rfl kc_1 rfl rfl ?_
    refine e_next (pc' := 134) rfl rfl ?_
    exact h
theorem w253 {d : Nat} {x1 : Int32} {x2 : Int32} {x3 : Int32} {x4 : Int32} {x5 : Int32} {g : qG} {I : qI} {J : qJ} {Q : qQ} (hs : qSh g)  (h : qC d 147 [.long (Int32.toInt64 x5), .long (lN 0), .long (lN 1)] g (qw I 105 0 (nI 0)) J (fun v _ _ _ => ∃ r1, v = some (.int r1) ∧ ((r1 = 0 → Q (some (.int (-1000000))) g (qw I 105 0 (nI 0)) J) ∧ (¬ r1 = 0 → qC d 247 [.ref 105, .int x1, .int x2, .int x3, .int x4] g (qw I 105 0 (nI 0)) J (fun v _ I1 _ => ∃ r2, v = some (.int r2) ∧ ((r2 = 0 → Q (some (.int (-1000000))) g I1 J) ∧ (¬ r2 = 0 → qev (d + 1) 253 (46, [.ref 105, .int x1, .int x2, .int x3, .int x4, .int x5, .int (nI 0), .int (-1), .int ((I1 105 7) - (nI 1))], [], g, I1, J) Q))))))) : qC (d + 1) 253 [.ref 105, .int x1, .int x2, .int x3, .int x4, .int x5] g I J Q := by
  show qev (d + 1) 253 (0, [.ref 105, .int x1, .int x2, .int x3, .int x4, .int x5, qpad, qpad, qpad], [], g, I, J) Q
  refine e_next (pc' := 1) rfl rfl ?_
  refine e_iconst (pc' := 2) rfl rfl kc_0 ?_
  refine e_putI (pc' := 5) rfl rfl (hs.o rfl) ?_
  refine e_next (pc' := 7) rfl rfl ?_
  refine e_next (pc' := 8) rfl rfl ?_
  refine e_lconst (pc' := 9) rfl rfl kl_0 ?_
  refine e_lconst (pc' := 10) rfl rfl kl_1 ?_
  refine e_cpI (pc' := 13) rfl (e_sS (as := [_, _, _]) (fun _ => rfl) rfl (Nat.le_of_ble_eq_true rfl) rfl rfl (Nat.le_of_ble_eq_true rfl) (Nat.le_of_ble_eq_true rfl) rfl) rfl rfl rfl ?_
  refine qev.mono h (fun v _ _ _ h => ?_)
  obtain ⟨r1, rfl, h⟩ := h
  refine ⟨r1, rfl, ?_⟩
  refine e_if (r1 = 0) (pc' := 16) rfl rfl e_d (fun hc => ?_) (fun hc => ?_)
  · replace h := h.1 hc
    refine e_ldcw (pc' := 31) rfl rfl kn_4293967296 ?_
    exact e_iret rfl h
  · replace h := h.2 hc
    refine e_next (pc' := 17) rfl rfl ?_
    refine e_next (pc' := 18) rfl rfl ?_
    refine e_next (pc' := 19) rfl rfl ?_
    refine e_next (pc' := 20) rfl rfl ?_
    refine e_next (pc' := 22) rfl rfl ?_
    refine e_ciI (pc' := 25) rfl (e_sV (as := [_, _, _, _]) (fun _ => rfl) (Or.inl rfl) rfl (hs.o rfl) rfl rfl (Nat.le_of_ble_eq_true rfl) (Nat.le_of_ble_eq_true rfl) rfl) rfl rfl ?_
    refine qev.mono h (fun v _ I1 _ h => ?_)
    obtain ⟨r2, rfl, h⟩ := h
    refine ⟨r2, rfl, ?_⟩
    refine e_if (¬ r2 = 0) (pc' := 28) rfl rfl e_d (fun hc => ?_) (fun hc => ?_)
    · replace h := h.2 hc
      refine e_iconst (pc' := 33) rfl rfl kc_0 ?_
      refine e_next (pc' := 35) (ls' := [_, _, _, _, _, _, _, _, _]) rfl rfl ?_
      refine e_iconst (pc' := 36) rfl rfl kc_m1 ?_
      refine e_next (pc' := 38) (ls' := [_, _, _, _, _, _, _, _, _]) rfl rfl ?_
      refine e_next (pc' := 39) rfl rfl ?_
      refine e_getI (pc' := 42) rfl (Or.inl rfl) rfl (hs.o rfl) ?_
      refine e_iconst (pc' := 43) rfl rfl kc_1 ?_
      refine e_next (pc' := 44) rfl rfl ?_
      refine e_next (pc' := 46) (ls' := [_, _, _, _, _, _, _, _, _]) rfl rfl ?_
      exact h
    · replace h := h.1 (Decidable.not_not.mp hc)
      refine e_ldcw (pc' := 31) rfl rfl kn_4293967296 ?_
      exact e_iret rfl h
theorem w253_46 {d : Nat} {i1 : Int32} {i2 : Int32} {i3 : Int32} {i4 : Int32} {i5 : Int32} {i6 : Int32} {i7 : Int32} {i8 : Int32} {g : qG} {I : qI} {J : qJ} {Q : qQ} (hs : qSh g)  (h : ((i8 < 0 → ((i5 = 0 → Q (some (.int i6)) g I J) ∧ (¬ i5 = 0 → Q (some (.int i7)) g I J))) ∧ (¬ i8 < 0 → qC d 250 [.ref 105, .int i8] g I J (fun v _ _ _ => ∃ r1, v = some (.int r1) ∧ ((r1 = 0 → qev (d + 1) 253 (46, [.ref 105, .int i1, .int i2, .int i3, .int i4, .int i5, .int i6, .int i7, .int (i8 + (-1))], [], g, I, J) Q) ∧ (¬ r1 = 0 → qev (d + 1) 253 (46, [.ref 105, .int i1, .int i2, .int i3, .int i4, .int i5, .int (i6 + (nI 1)), .int i8, .int (i8 + (-1))], [], g, I, J) Q)))))) : qev (d + 1) 253 (46, [.ref 105, .int i1, .int i2, .int i3, .int i4, .int i5, .int i6, .int i7, .int i8], [], g, I, J) Q := by
  refine e_next (pc' := 48) rfl rfl ?_
  refine e_if (i8 < 0) (pc' := 51) rfl rfl e_d (fun hc => ?_) (fun hc => ?_)
  · replace h := h.1 hc
    refine e_next (pc' := 78) rfl rfl ?_
    refine e_if (¬ i5 = 0) (pc' := 81) rfl rfl e_d (fun hc => ?_) (fun hc => ?_)
    · replace h := h.2 hc
      refine e_next (pc' := 88) rfl rfl ?_
      exact e_iret rfl h
    · replace h := h.1 (Decidable.not_not.mp hc)
      refine e_next (pc' := 83) rfl rfl ?_
      refine e_next (pc' := 88) rfl rfl ?_
      exact e_iret rfl h
  · replace h := h.2 hc
    refine e_next (pc' := 52) rfl rfl ?_
    refine e_next (pc' := 54) rfl rfl ?_
    refine e_cpI (pc' := 57) rfl (e_sV (as := [_]) (fun _ => rfl) (Or.inl rfl) rfl (hs.o rfl) rfl rfl (Nat.le_of_ble_eq_true rfl) (Nat.le_of_ble_eq_true rfl) rfl) rfl rfl rfl ?_
    refine qev.mono h (fun v _ _ _ h => ?_)
    obtain ⟨r1, rfl, h⟩ := h
    refine ⟨r1, rfl, ?_⟩
    refine e_if (¬ r1 = 0) (pc' := 60) rfl rfl e_d (fun hc => ?_) (fun hc => ?_)
    · replace h := h.2 hc
      refine e_iinc (pc' := 66) (ls' := [_, _, _, _, _, _, _, _, _]) (v := (nI 1)) rfl rfl kc_1 rfl rfl ?_
      refine e_next (pc' := 68) rfl rfl ?_
      refine e_next (pc' := 70) (ls' := [_, _, _, _, _, _, _, _, _]) rfl rfl ?_
      refine e_iinc (pc' := 73) (ls' := [_, _, _, _, _, _, _, _, _]) (v := (-1)) rfl rfl kc_m1 rfl rfl ?_
      refine e_next (pc' := 46) rfl rfl ?_
      exact h
    · replace h := h.1 (Decidable.not_not.mp hc)
      refine e_next (pc' := 70) rfl rfl ?_
      refine e_iinc (pc' := 73) (ls' := [_, _, _, _, _, _, _, _, _]) (v := (-1)) rfl rfl kc_m1 rfl rfl ?_
      refine e_next (pc' := 46) rfl rfl ?_
      exact h
theorem w254 {d : Nat} {x1 : Int32} {x2 : Int32} {g : qG} {I : qI} {J : qJ} {Q : qQ} (hs : qSh g)  (h : ∃ k1, (((nI 25) * x1) + x2) = nI k1 ∧ k1 < 600 ∧ Q (some (.int (I 117 k1))) g I J) : qC d 254 [.ref 105, .int x1, .int x2] g I J Q := by
  show qev d 254 (0, [.ref 105, .int x1, .int x2], [], g, I, J) Q
  refine e_next (pc' := 1) rfl rfl ?_
  refine e_getR (pc' := 4) rfl rfl (hs.o rfl) (hs.a rfl) ?_
  refine e_bipush (pc' := 6) rfl rfl kb_25 ?_
  refine e_next (pc' := 7) rfl rfl ?_
  refine e_next (pc' := 8) rfl rfl ?_
  refine e_next (pc' := 9) rfl rfl ?_
  refine e_next (pc' := 10) rfl rfl ?_
  obtain ⟨k1, hi_k1, hj_k1, h⟩ := h
  refine e_iald k1 (pc' := 11) rfl rfl (hs.k rfl) hi_k1 hj_k1 (by decide) ?_
  exact e_iret rfl h
theorem w255 {d : Nat} {x1 : Int32} {x2 : Int32} {x3 : Int32} {x4 : Int32} {g : qG} {I : qI} {J : qJ} {Q : qQ} (hs : qSh g)  (h : qC d 254 [.ref 105, .int x2, .int x3] g I J (fun v _ _ _ => ∃ r1, v = some (.int r1) ∧ qC d 254 [.ref 105, .int x1, .int x3] g I J (fun v _ _ _ => ∃ r2, v = some (.int r2) ∧ qC d 179 [.ref 105, .int r2] g I J (fun v _ _ _ => ∃ r3, v = some (.int r3) ∧ qC d 178 [.ref 105, .long ((Int32.toInt64 r1) * (Int32.toInt64 r3))] g I J (fun v _ _ _ => ∃ r4, v = some (.int r4) ∧ qev (d + 1) 255 (28, [.ref 105, .int x1, .int x2, .int x3, .int x4, .int r4, .int (nI 0)], [], g, I, J) Q))))) : qC (d + 1) 255 [.ref 105, .int x1, .int x2, .int x3, .int x4] g I J Q := by
  show qev (d + 1) 255 (0, [.ref 105, .int x1, .int x2, .int x3, .int x4, qpad, qpad], [], g, I, J) Q
  refine e_next (pc' := 1) rfl rfl ?_
  refine e_next (pc' := 2) rfl rfl ?_
  refine e_next (pc' := 3) rfl rfl ?_
  refine e_next (pc' := 4) rfl rfl ?_
  refine e_cpI (pc' := 7) rfl (e_sV (as := [_, _]) (fun _ => rfl) (Or.inl rfl) rfl (hs.o rfl) rfl rfl (Nat.le_of_ble_eq_true rfl) (Nat.le_of_ble_eq_true rfl) rfl) rfl rfl rfl ?_
  refine qev.mono h (fun v _ _ _ h => ?_)
  obtain ⟨r1, rfl, h⟩ := h
  refine ⟨r1, rfl, ?_⟩
  refine e_next (pc' := 8) rfl rfl ?_
  refine e_next (pc' := 9) rfl rfl ?_
  refine e_next (pc' := 10) rfl rfl ?_
  refine e_next (pc' := 11) rfl rfl ?_
  refine e_next (pc' := 12) rfl rfl ?_
  refine e_cpI (pc' := 15) rfl (e_sV (as := [_, _]) (fun _ => rfl) (Or.inl rfl) rfl (hs.o rfl) rfl rfl (Nat.le_of_ble_eq_true rfl) (Nat.le_of_ble_eq_true rfl) rfl) rfl rfl rfl ?_
  refine qev.mono h (fun v _ _ _ h => ?_)
  obtain ⟨r2, rfl, h⟩ := h
  refine ⟨r2, rfl, ?_⟩
  refine e_cpI (pc' := 18) rfl (e_sV (as := [_]) (fun _ => rfl) (Or.inl rfl) rfl (hs.o rfl) rfl rfl (Nat.le_of_ble_eq_true rfl) (Nat.le_of_ble_eq_true rfl) rfl) rfl rfl rfl ?_
  refine qev.mono h (fun v _ _ _ h => ?_)
  obtain ⟨r3, rfl, h⟩ := h
  refine ⟨r3, rfl, ?_⟩
  refine e_next (pc' := 19) rfl rfl ?_
  refine e_next (pc' := 20) rfl rfl ?_
  refine e_cpI (pc' := 23) rfl (e_sV (as := [_]) (fun _ => rfl) (Or.inl rfl) rfl (hs.o rfl) rfl rfl (Nat.le_of_ble_eq_true rfl) (Nat.le_of_ble_eq_true rfl) rfl) rfl rfl rfl ?_
  refine qev.mono h (fun v _ _ _ h => ?_)
  obtain ⟨r4, rfl, h⟩ := h
  refine ⟨r4, rfl, ?_⟩
  refine e_next (pc' := 25) (ls' := [_, _, _, _, _, _, _]) rfl rfl ?_
  refine e_iconst (pc' := 26) rfl rfl kc_0 ?_
  refine e_next (pc' := 28) (ls' := [_, _, _, _, _, _, _]) rfl rfl ?_
  exact h
theorem w255_28 {d : Nat} {i1 : Int32} {i2 : Int32} {i3 : Int32} {i4 : Int32} {i5 : Int32} {i6 : Int32} {g : qG} {I : qI} {J : qJ} {Q : qQ} (hs : qSh g)  (h : ((i4 < i6 → Q none g I J) ∧ (¬ i4 < i6 → qC d 254 [.ref 105, .int i2, .int i6] g I J (fun v _ _ _ => ∃ r1, v = some (.int r1) ∧ qC d 254 [.ref 105, .int i1, .int i6] g I J (fun v _ _ _ => ∃ r2, v = some (.int r2) ∧ qC d 178 [.ref 105, .long ((Int32.toInt64 r1) - ((Int32.toInt64 i5) * (Int32.toInt64 r2)))] g I J (fun v _ _ _ => ∃ r3, v = some (.int r3) ∧ ∃ k1, (((nI 25) * i2) + i6) = nI k1 ∧ k1 < 600 ∧ qev (d + 1) 255 (28, [.ref 105, .int i1, .int i2, .int i3, .int i4, .int i5, .int (i6 + (nI 1))], [], g, (qw I 117 k1 r3), J) Q)))))) : qev (d + 1) 255 (28, [.ref 105, .int i1, .int i2, .int i3, .int i4, .int i5, .int i6], [], g, I, J) Q := by
  refine e_next (pc' := 30) rfl rfl ?_
  refine e_next (pc' := 32) rfl rfl ?_
  refine e_icmp (i4 < i6) (pc' := 35) rfl rfl e_d (fun hc => ?_) (fun hc => ?_)
  · replace h := h.1 hc
    exact qev_ret rfl rfl h
  · replace h := h.2 hc
    refine e_next (pc' := 36) rfl rfl ?_
    refine e_getR (pc' := 39) rfl rfl (hs.o rfl) (hs.a rfl) ?_
    refine e_bipush (pc' := 41) rfl rfl kb_25 ?_
    refine e_next (pc' := 42) rfl rfl ?_
    refine e_next (pc' := 43) rfl rfl ?_
    refine e_next (pc' := 45) rfl rfl ?_
    refine e_next (pc' := 46) rfl rfl ?_
    refine e_next (pc' := 47) rfl rfl ?_
    refine e_next (pc' := 48) rfl rfl ?_
    refine e_next (pc' := 49) rfl rfl ?_
    refine e_next (pc' := 51) rfl rfl ?_
    refine e_cpI (pc' := 54) rfl (e_sV (as := [_, _]) (fun _ => rfl) (Or.inl rfl) rfl (hs.o rfl) rfl rfl (Nat.le_of_ble_eq_true rfl) (Nat.le_of_ble_eq_true rfl) rfl) rfl rfl rfl ?_
    refine qev.mono h (fun v _ _ _ h => ?_)
    obtain ⟨r1, rfl, h⟩ := h
    refine ⟨r1, rfl, ?_⟩
    refine e_next (pc' := 55) rfl rfl ?_
    refine e_next (pc' := 57) rfl rfl ?_
    refine e_next (pc' := 58) rfl rfl ?_
    refine e_next (pc' := 59) rfl rfl ?_
    refine e_next (pc' := 60) rfl rfl ?_
    refine e_next (pc' := 62) rfl rfl ?_
    refine e_cpI (pc' := 65) rfl (e_sV (as := [_, _]) (fun _ => rfl) (Or.inl rfl) rfl (hs.o rfl) rfl rfl (Nat.le_of_ble_eq_true rfl) (Nat.le_of_ble_eq_true rfl) rfl) rfl rfl rfl ?_
    refine qev.mono h (fun v _ _ _ h => ?_)
    obtain ⟨r2, rfl, h⟩ := h
    refine ⟨r2, rfl, ?_⟩
    refine e_next (pc' := 66) rfl rfl ?_
    refine e_next (pc' := 67) rfl rfl ?_
    refine e_next (pc' := 68) rfl rfl ?_
    refine e_cpI (pc' := 71) rfl (e_sV (as := [_]) (fun _ => rfl) (Or.inl rfl) rfl (hs.o rfl) rfl rfl (Nat.le_of_ble_eq_true rfl) (Nat.le_of_ble_eq_true rfl) rfl) rfl rfl rfl ?_
    refine qev.mono h (fun v _ _ _ h => ?_)
    obtain ⟨r3, rfl, h⟩ := h
    refine ⟨r3, rfl, ?_⟩
    obtain ⟨k1, hi_k1, hj_k1, h⟩ := h
    refine e_iast k1 (pc' := 72) rfl rfl (hs.k rfl) hi_k1 hj_k1 (by decide) ?_
    refine e_iinc (pc' := 75) (ls' := [_, _, _, _, _, _, _]) (v := (nI 1)) rfl rfl kc_1 rfl rfl ?_
    refine e_next (pc' := 28) rfl rfl ?_
    exact h
theorem w256 {d : Nat} {x1 : Int32} {x2 : Int32} {x3 : Int32} {g : qG} {I : qI} {J : qJ} {Q : qQ}  (h : qev (d + 1) 256 (3, [.ref 105, .int x1, .int x2, .int x3, .int (nI 0), qpad], [], g, I, J) Q) : qC (d + 1) 256 [.ref 105, .int x1, .int x2, .int x3] g I J Q := by
  show qev (d + 1) 256 (0, [.ref 105, .int x1, .int x2, .int x3, qpad, qpad], [], g, I, J) Q
  refine e_iconst (pc' := 1) rfl rfl kc_0 ?_
  refine e_next (pc' := 3) (ls' := [_, _, _, _, _, _]) rfl rfl ?_
  exact h
theorem w256_3 {d : Nat} {i1 : Int32} {i2 : Int32} {i3 : Int32} {i4 : Int32} {w5 : Value} {g : qG} {I : qI} {J : qJ} {Q : qQ} (hs : qSh g)  (h : ((i3 < i4 → Q none g I J) ∧ (¬ i3 < i4 → qC d 254 [.ref 105, .int i1, .int i4] g I J (fun v _ _ _ => ∃ r1, v = some (.int r1) ∧ qC d 254 [.ref 105, .int i2, .int i4] g I J (fun v _ _ _ => ∃ r2, v = some (.int r2) ∧ ∃ k1, (((nI 25) * i1) + i4) = nI k1 ∧ k1 < 600 ∧ ∃ k2, (((nI 25) * i2) + i4) = nI k2 ∧ k2 < 600 ∧ qev (d + 1) 256 (3, [.ref 105, .int i1, .int i2, .int i3, .int (i4 + (nI 1)), .int r1], [], g, (qw (qw I 117 k1 r2) 117 k2 r1), J) Q))))) : qev (d + 1) 256 (3, [.ref 105, .int i1, .int i2, .int i3, .int i4, w5], [], g, I, J) Q := by
  refine e_next (pc' := 5) rfl rfl ?_
  refine e_next (pc' := 6) rfl rfl ?_
  refine e_icmp (i3 < i4) (pc' := 9) rfl rfl e_d (fun hc => ?_) (fun hc => ?_)
  · replace h := h.1 hc
    exact qev_ret rfl rfl h
  · replace h := h.2 hc
    refine e_next (pc' := 10) rfl rfl ?_
    refine e_next (pc' := 11) rfl rfl ?_
    refine e_next (pc' := 13) rfl rfl ?_
    refine e_cpI (pc' := 16) rfl (e_sV (as := [_, _]) (fun _ => rfl) (Or.inl rfl) rfl (hs.o rfl) rfl rfl (Nat.le_of_ble_eq_true rfl) (Nat.le_of_ble_eq_true rfl) rfl) rfl rfl rfl ?_
    refine qev.mono h (fun v _ _ _ h => ?_)
    obtain ⟨r1, rfl, h⟩ := h
    refine ⟨r1, rfl, ?_⟩
    refine e_next (pc' := 18) (ls' := [_, _, _, _, _, _]) rfl rfl ?_
    refine e_next (pc' := 19) rfl rfl ?_
    refine e_getR (pc' := 22) rfl rfl (hs.o rfl) (hs.a rfl) ?_
    refine e_bipush (pc' := 24) rfl rfl kb_25 ?_
    refine e_next (pc' := 25) rfl rfl ?_
    refine e_next (pc' := 26) rfl rfl ?_
    refine e_next (pc' := 28) rfl rfl ?_
    refine e_next (pc' := 29) rfl rfl ?_
    refine e_next (pc' := 30) rfl rfl ?_
    refine e_next (pc' := 31) rfl rfl ?_
    refine e_next (pc' := 33) rfl rfl ?_
    refine e_cpI (pc' := 36) rfl (e_sV (as := [_, _]) (fun _ => rfl) (Or.inl rfl) rfl (hs.o rfl) rfl rfl (Nat.le_of_ble_eq_true rfl) (Nat.le_of_ble_eq_true rfl) rfl) rfl rfl rfl ?_
    refine qev.mono h (fun v _ _ _ h => ?_)
    obtain ⟨r2, rfl, h⟩ := h
    refine ⟨r2, rfl, ?_⟩
    obtain ⟨k1, hi_k1, hj_k1, h⟩ := h
    refine e_iast k1 (pc' := 37) rfl rfl (hs.k rfl) hi_k1 hj_k1 (by decide) ?_
    refine e_next (pc' := 38) rfl rfl ?_
    refine e_getR (pc' := 41) rfl rfl (hs.o rfl) (hs.a rfl) ?_
    refine e_bipush (pc' := 43) rfl rfl kb_25 ?_
    refine e_next (pc' := 44) rfl rfl ?_
    refine e_next (pc' := 45) rfl rfl ?_
    refine e_next (pc' := 47) rfl rfl ?_
    refine e_next (pc' := 48) rfl rfl ?_
    refine e_next (pc' := 50) rfl rfl ?_
    obtain ⟨k2, hi_k2, hj_k2, h⟩ := h
    refine e_iast k2 (pc' := 51) rfl rfl (hs.k rfl) hi_k2 hj_k2 (by decide) ?_
    refine e_iinc (pc' := 54) (ls' := [_, _, _, _, _, _]) (v := (nI 1)) rfl rfl kc_1 rfl rfl ?_
    refine e_next (pc' := 3) rfl rfl ?_
    exact h
theorem w257 {d : Nat} {x1 : Int32} {x2 : Int32} {g : qG} {I : qI} {J : qJ} {Q : qQ}  (h : qev (d + 1) 257 (7, [.ref 105, .int x1, .int x2, .int (x2 - x1), .int (nI 0), qpad, qpad, qpad], [], g, I, J) Q) : qC (d + 1) 257 [.ref 105, .int x1, .int x2] g I J Q := by
  show qev (d + 1) 257 (0, [.ref 105, .int x1, .int x2, qpad, qpad, qpad, qpad, qpad], [], g, I, J) Q
  refine e_next (pc' := 1) rfl rfl ?_
  refine e_next (pc' := 2) rfl rfl ?_
  refine e_next (pc' := 3) rfl rfl ?_
  refine e_next (pc' := 4) (ls' := [_, _, _, _, _, _, _, _]) rfl rfl ?_
  refine e_iconst (pc' := 5) rfl rfl kc_0 ?_
  refine e_next (pc' := 7) (ls' := [_, _, _, _, _, _, _, _]) rfl rfl ?_
  exact h
theorem w257_7 {d : Nat} {i1 : Int32} {i2 : Int32} {i3 : Int32} {i4 : Int32} {w5 : Value} {g : qG} {I : qI} {J : qJ} {Q : qQ} (hs : qSh g)  (h : ((i3 ≤ i4 → qC d 193 [.ref 105, .int (nI 40), .int (nI 24)] g I J (fun v _ I1 _ => v = none ∧ qev (d + 1) 257 (96, [.ref 105, .int i1, .int i2, .int i3, .int (nI 0), .int (nI 0), qpad, qpad], [], g, I1, J) Q)) ∧ (¬ i3 ≤ i4 → qev (d + 1) 257 (16, [.ref 105, .int i1, .int i2, .int i3, .int i4, .int (nI 0), qpad, qpad], [], g, I, J) Q))) : qev (d + 1) 257 (7, [.ref 105, .int i1, .int i2, .int i3, .int i4, w5, qpad, qpad], [], g, I, J) Q := by
  refine e_next (pc' := 9) rfl rfl ?_
  refine e_next (pc' := 10) rfl rfl ?_
  refine e_icmp (i3 ≤ i4) (pc' := 13) rfl rfl e_d (fun hc => ?_) (fun hc => ?_)
  · replace h := h.1 hc
    refine e_iconst (pc' := 83) rfl rfl kc_0 ?_
    refine e_next (pc' := 85) (ls' := [_, _, _, _, _, _, _, _]) rfl rfl ?_
    refine e_next (pc' := 86) rfl rfl ?_
    refine e_bipush (pc' := 88) rfl rfl kb_40 ?_
    refine e_bipush (pc' := 90) rfl rfl kb_24 ?_
    refine e_ciV (pc' := 93) rfl (e_sV (as := [_, _]) (fun _ => rfl) (Or.inl rfl) rfl (hs.o rfl) rfl rfl (Nat.le_of_ble_eq_true rfl) (Nat.le_of_ble_eq_true rfl) rfl) rfl rfl ?_
    refine qev.mono h (fun v _ I1 _ h => ?_)
    obtain ⟨rfl, h⟩ := h
    refine ⟨rfl, ?_⟩
    refine e_iconst (pc' := 94) rfl rfl kc_0 ?_
    refine e_next (pc' := 96) (ls' := [_, _, _, _, _, _, _, _]) rfl rfl ?_
    exact h
  · replace h := h.2 hc
    refine e_iconst (pc' := 14) rfl rfl kc_0 ?_
    refine e_next (pc' := 16) (ls' := [_, _, _, _, _, _, _, _]) rfl rfl ?_
    exact h
theorem w257_16 {d : Nat} {i1 : Int32} {i2 : Int32} {i3 : Int32} {i4 : Int32} {i5 : Int32} {g : qG} {I : qI} {J : qJ} {Q : qQ} (hs : qSh g)  (h : ((i1 ≤ i5 → qC d 182 [.ref 105, .int (nI 0), .int (i1 + i4)] g I J (fun v _ _ _ => ∃ r1, v = some (.int r1) ∧ ∃ k1, (((nI 25) * i4) + i1) = nI k1 ∧ k1 < 600 ∧ qev (d + 1) 257 (7, [.ref 105, .int i1, .int i2, .int i3, .int (i4 + (nI 1)), .int i5, qpad, qpad], [], g, (qw I 117 k1 r1), J) Q)) ∧ (¬ i1 ≤ i5 → qC d 182 [.ref 105, .int (nI 0), .int (((i1 + i4) - (nI 1)) - i5)] g I J (fun v _ _ _ => ∃ r2, v = some (.int r2) ∧ ∃ k2, (((nI 25) * i4) + i5) = nI k2 ∧ k2 < 600 ∧ qev (d + 1) 257 (16, [.ref 105, .int i1, .int i2, .int i3, .int i4, .int (i5 + (nI 1)), qpad, qpad], [], g, (qw I 117 k2 r2), J) Q)))) : qev (d + 1) 257 (16, [.ref 105, .int i1, .int i2, .int i3, .int i4, .int i5, qpad, qpad], [], g, I, J) Q := by
  refine e_next (pc' := 18) rfl rfl ?_
  refine e_next (pc' := 19) rfl rfl ?_
  refine e_icmp (i1 ≤ i5) (pc' := 22) rfl rfl e_d (fun hc => ?_) (fun hc => ?_)
  · replace h := h.1 hc
    refine e_next (pc' := 56) rfl rfl ?_
    refine e_getR (pc' := 59) rfl rfl (hs.o rfl) (hs.a rfl) ?_
    refine e_bipush (pc' := 61) rfl rfl kb_25 ?_
    refine e_next (pc' := 63) rfl rfl ?_
    refine e_next (pc' := 64) rfl rfl ?_
    refine e_next (pc' := 65) rfl rfl ?_
    refine e_next (pc' := 66) rfl rfl ?_
    refine e_next (pc' := 67) rfl rfl ?_
    refine e_iconst (pc' := 68) rfl rfl kc_0 ?_
    refine e_next (pc' := 69) rfl rfl ?_
    refine e_next (pc' := 71) rfl rfl ?_
    refine e_next (pc' := 72) rfl rfl ?_
    refine e_cpI (pc' := 75) rfl (e_sV (as := [_, _]) (fun _ => rfl) (Or.inl rfl) rfl (hs.o rfl) rfl rfl (Nat.le_of_ble_eq_true rfl) (Nat.le_of_ble_eq_true rfl) rfl) rfl rfl rfl ?_
    refine qev.mono h (fun v _ _ _ h => ?_)
    obtain ⟨r1, rfl, h⟩ := h
    refine ⟨r1, rfl, ?_⟩
    obtain ⟨k1, hi_k1, hj_k1, h⟩ := h
    refine e_iast k1 (pc' := 76) rfl rfl (hs.k rfl) hi_k1 hj_k1 (by decide) ?_
    refine e_iinc (pc' := 79) (ls' := [_, _, _, _, _, _, _, _]) (v := (nI 1)) rfl rfl kc_1 rfl rfl ?_
    refine e_next (pc' := 7) rfl rfl ?_
    exact h
  · replace h := h.2 hc
    refine e_next (pc' := 23) rfl rfl ?_
    refine e_getR (pc' := 26) rfl rfl (hs.o rfl) (hs.a rfl) ?_
    refine e_bipush (pc' := 28) rfl rfl kb_25 ?_
    refine e_next (pc' := 30) rfl rfl ?_
    refine e_next (pc' := 31) rfl rfl ?_
    refine e_next (pc' := 33) rfl rfl ?_
    refine e_next (pc' := 34) rfl rfl ?_
    refine e_next (pc' := 35) rfl rfl ?_
    refine e_iconst (pc' := 36) rfl rfl kc_0 ?_
    refine e_next (pc' := 37) rfl rfl ?_
    refine e_next (pc' := 39) rfl rfl ?_
    refine e_next (pc' := 40) rfl rfl ?_
    refine e_iconst (pc' := 41) rfl rfl kc_1 ?_
    refine e_next (pc' := 42) rfl rfl ?_
    refine e_next (pc' := 44) rfl rfl ?_
    refine e_next (pc' := 45) rfl rfl ?_
    refine e_cpI (pc' := 48) rfl (e_sV (as := [_, _]) (fun _ => rfl) (Or.inl rfl) rfl (hs.o rfl) rfl rfl (Nat.le_of_ble_eq_true rfl) (Nat.le_of_ble_eq_true rfl) rfl) rfl rfl rfl ?_
    refine qev.mono h (fun v _ _ _ h => ?_)
    obtain ⟨r2, rfl, h⟩ := h
    refine ⟨r2, rfl, ?_⟩
    obtain ⟨k2, hi_k2, hj_k2, h⟩ := h
    refine e_iast k2 (pc' := 49) rfl rfl (hs.k rfl) hi_k2 hj_k2 (by decide) ?_
    refine e_iinc (pc' := 52) (ls' := [_, _, _, _, _, _, _, _]) (v := (nI 1)) rfl rfl kc_1 rfl rfl ?_
    refine e_next (pc' := 16) rfl rfl ?_
    exact h
theorem w257_96 {d : Nat} {i1 : Int32} {i2 : Int32} {i3 : Int32} {i4 : Int32} {i5 : Int32} {g : qG} {I : qI} {J : qJ} {Q : qQ} (hs : qSh g)  (h : (((nI 24) ≤ i5 → qev (d + 1) 257 (120, [.ref 105, .int i1, .int i2, .int i3, .int i4, .int (nI 0), qpad, qpad], [], g, I, J) Q) ∧ (¬ (nI 24) ≤ i5 → ∃ k1, i5 = nI k1 ∧ k1 < 24 ∧ qev (d + 1) 257 (96, [.ref 105, .int i1, .int i2, .int i3, .int i4, .int (i5 + (nI 1)), qpad, qpad], [], g, (qw I 118 k1 (-1)), J) Q))) : qev (d + 1) 257 (96, [.ref 105, .int i1, .int i2, .int i3, .int i4, .int i5, qpad, qpad], [], g, I, J) Q := by
  refine e_next (pc' := 98) rfl rfl ?_
  refine e_bipush (pc' := 100) rfl rfl kb_24 ?_
  refine e_icmp ((nI 24) ≤ i5) (pc' := 103) rfl rfl e_d (fun hc => ?_) (fun hc => ?_)
  · replace h := h.1 hc
    refine e_iconst (pc' := 118) rfl rfl kc_0 ?_
    refine e_next (pc' := 120) (ls' := [_, _, _, _, _, _, _, _]) rfl rfl ?_
    exact h
  · replace h := h.2 hc
    refine e_next (pc' := 104) rfl rfl ?_
    refine e_getR (pc' := 107) rfl rfl (hs.o rfl) (hs.a rfl) ?_
    refine e_next (pc' := 109) rfl rfl ?_
    refine e_iconst (pc' := 110) rfl rfl kc_m1 ?_
    obtain ⟨k1, hi_k1, hj_k1, h⟩ := h
    refine e_iast k1 (pc' := 111) rfl rfl (hs.k rfl) hi_k1 hj_k1 (by decide) ?_
    refine e_iinc (pc' := 114) (ls' := [_, _, _, _, _, _, _, _]) (v := (nI 1)) rfl rfl kc_1 rfl rfl ?_
    refine e_next (pc' := 96) rfl rfl ?_
    exact h
theorem w257_120 {d : Nat} {i1 : Int32} {i2 : Int32} {i3 : Int32} {i4 : Int32} {i5 : Int32} {w6 : Value} {w7 : Value} {g : qG} {I : qI} {J : qJ} {Q : qQ}  (h : ((i1 ≤ i5 → qev (d + 1) 257 (237, [.ref 105, .int i1, .int i2, .int i3, .int i4, .int i4, w6, w7], [], g, I, J) Q) ∧ (¬ i1 ≤ i5 → qev (d + 1) 257 (130, [.ref 105, .int i1, .int i2, .int i3, .int i4, .int i5, .int i4, w7], [], g, I, J) Q))) : qev (d + 1) 257 (120, [.ref 105, .int i1, .int i2, .int i3, .int i4, .int i5, w6, w7], [], g, I, J) Q := by
  refine e_next (pc' := 122) rfl rfl ?_
  refine e_next (pc' := 123) rfl rfl ?_
  refine e_icmp (i1 ≤ i5) (pc' := 126) rfl rfl e_d (fun hc => ?_) (fun hc => ?_)
  · replace h := h.1 hc
    refine e_next (pc' := 235) rfl rfl ?_
    refine e_next (pc' := 237) (ls' := [_, _, _, _, _, _, _, _]) rfl rfl ?_
    exact h
  · replace h := h.2 hc
    refine e_next (pc' := 128) rfl rfl ?_
    refine e_next (pc' := 130) (ls' := [_, _, _, _, _, _, _, _]) rfl rfl ?_
    exact h
theorem w257_130 {d : Nat} {i1 : Int32} {i2 : Int32} {i3 : Int32} {i4 : Int32} {i5 : Int32} {i6 : Int32} {w7 : Value} {g : qG} {I : qI} {J : qJ} {Q : qQ} (hs : qSh g)  (h : ((i3 ≤ i6 → ((i6 = i3 → qev (d + 1) 257 (120, [.ref 105, .int i1, .int i2, .int i3, .int i4, .int (i5 + (nI 1)), .int i6, w7], [], g, I, J) Q) ∧ (¬ i6 = i3 → qC d 256 [.ref 105, .int i4, .int i6, .int i1] g I J (fun v _ I1 _ => v = none ∧ qev (d + 1) 257 (174, [.ref 105, .int i1, .int i2, .int i3, .int i4, .int i5, .int i6, .int (nI 0)], [], g, I1, J) Q)))) ∧ (¬ i3 ≤ i6 → qC d 254 [.ref 105, .int i6, .int i5] g I J (fun v _ _ _ => ∃ r1, v = some (.int r1) ∧ ((r1 = 0 → qev (d + 1) 257 (130, [.ref 105, .int i1, .int i2, .int i3, .int i4, .int i5, .int (i6 + (nI 1)), w7], [], g, I, J) Q) ∧ (¬ r1 = 0 → ((i6 = i3 → qev (d + 1) 257 (120, [.ref 105, .int i1, .int i2, .int i3, .int i4, .int (i5 + (nI 1)), .int i6, w7], [], g, I, J) Q) ∧ (¬ i6 = i3 → qC d 256 [.ref 105, .int i4, .int i6, .int i1] g I J (fun v _ I2 _ => v = none ∧ qev (d + 1) 257 (174, [.ref 105, .int i1, .int i2, .int i3, .int i4, .int i5, .int i6, .int (nI 0)], [], g, I2, J) Q))))))))) : qev (d + 1) 257 (130, [.ref 105, .int i1, .int i2, .int i3, .int i4, .int i5, .int i6, w7], [], g, I, J) Q := by
  refine e_next (pc' := 132) rfl rfl ?_
  refine e_next (pc' := 133) rfl rfl ?_
  refine e_icmp (i3 ≤ i6) (pc' := 136) rfl rfl e_d (fun hc => ?_) (fun hc => ?_)
  · replace h := h.1 hc
    refine e_next (pc' := 155) rfl rfl ?_
    refine e_next (pc' := 156) rfl rfl ?_
    refine e_icmp (¬ i6 = i3) (pc' := 159) rfl rfl e_d (fun hc => ?_) (fun hc => ?_)
    · replace h := h.2 hc
      refine e_next (pc' := 163) rfl rfl ?_
      refine e_next (pc' := 165) rfl rfl ?_
      refine e_next (pc' := 167) rfl rfl ?_
      refine e_next (pc' := 168) rfl rfl ?_
      refine e_ciV (pc' := 171) rfl (e_sV (as := [_, _, _]) (fun _ => rfl) (Or.inl rfl) rfl (hs.o rfl) rfl rfl (Nat.le_of_ble_eq_true rfl) (Nat.le_of_ble_eq_true rfl) rfl) rfl rfl ?_
      refine qev.mono h (fun v _ I1 _ h => ?_)
      obtain ⟨rfl, h⟩ := h
      refine ⟨rfl, ?_⟩
      refine e_iconst (pc' := 172) rfl rfl kc_0 ?_
      refine e_next (pc' := 174) (ls' := [_, _, _, _, _, _, _, _]) rfl rfl ?_
      exact h
    · replace h := h.1 (Decidable.not_not.mp hc)
      refine e_next (pc' := 227) rfl rfl ?_
      refine e_iinc (pc' := 230) (ls' := [_, _, _, _, _, _, _, _]) (v := (nI 1)) rfl rfl kc_1 rfl rfl ?_
      refine e_next (pc' := 120) rfl rfl ?_
      exact h
  · replace h := h.2 hc
    refine e_next (pc' := 137) rfl rfl ?_
    refine e_next (pc' := 139) rfl rfl ?_
    refine e_next (pc' := 141) rfl rfl ?_
    refine e_cpI (pc' := 144) rfl (e_sV (as := [_, _]) (fun _ => rfl) (Or.inl rfl) rfl (hs.o rfl) rfl rfl (Nat.le_of_ble_eq_true rfl) (Nat.le_of_ble_eq_true rfl) rfl) rfl rfl rfl ?_
    refine qev.mono h (fun v _ _ _ h => ?_)
    obtain ⟨r1, rfl, h⟩ := h
    refine ⟨r1, rfl, ?_⟩
    refine e_if (¬ r1 = 0) (pc' := 147) rfl rfl e_d (fun hc => ?_) (fun hc => ?_)
    · replace h := h.2 hc
      refine e_next (pc' := 155) rfl rfl ?_
      refine e_next (pc' := 156) rfl rfl ?_
      refine e_icmp (¬ i6 = i3) (pc' := 159) rfl rfl e_d (fun hc => ?_) (fun hc => ?_)
      · replace h := h.2 hc
        refine e_next (pc' := 163) rfl rfl ?_
        refine e_next (pc' := 165) rfl rfl ?_
        refine e_next (pc' := 167) rfl rfl ?_
        refine e_next (pc' := 168) rfl rfl ?_
        refine e_ciV (pc' := 171) rfl (e_sV (as := [_, _, _]) (fun _ => rfl) (Or.inl rfl) rfl (hs.o rfl) rfl rfl (Nat.le_of_ble_eq_true rfl) (Nat.le_of_ble_eq_true rfl) rfl) rfl rfl ?_
        refine qev.mono h (fun v _ I2 _ h => ?_)
        obtain ⟨rfl, h⟩ := h
        refine ⟨rfl, ?_⟩
        refine e_iconst (pc' := 172) rfl rfl kc_0 ?_
        refine e_next (pc' := 174) (ls' := [_, _, _, _, _, _, _, _]) rfl rfl ?_
        exact h
      · replace h := h.1 (Decidable.not_not.mp hc)
        refine e_next (pc' := 227) rfl rfl ?_
        refine e_iinc (pc' := 230) (ls' := [_, _, _, _, _, _, _, _]) (v := (nI 1)) rfl rfl kc_1 rfl rfl ?_
        refine e_next (pc' := 120) rfl rfl ?_
        exact h
    · replace h := h.1 (Decidable.not_not.mp hc)
      refine e_iinc (pc' := 150) (ls' := [_, _, _, _, _, _, _, _]) (v := (nI 1)) rfl rfl kc_1 rfl rfl ?_
      refine e_next (pc' := 130) rfl rfl ?_
      exact h
theorem w257_174 {d : Nat} {i1 : Int32} {i2 : Int32} {i3 : Int32} {i4 : Int32} {i5 : Int32} {i6 : Int32} {i7 : Int32} {g : qG} {I : qI} {J : qJ} {Q : qQ} (hs : qSh g)  (h : ((i3 ≤ i7 → ∃ k1, i5 = nI k1 ∧ k1 < 24 ∧ qev (d + 1) 257 (120, [.ref 105, .int i1, .int i2, .int i3, .int (i4 + (nI 1)), .int (i5 + (nI 1)), .int i6, .int i7], [], g, (qw I 118 k1 i4), J) Q) ∧ (¬ i3 ≤ i7 → ((i7 = i4 → qev (d + 1) 257 (174, [.ref 105, .int i1, .int i2, .int i3, .int i4, .int i5, .int i6, .int (i7 + (nI 1))], [], g, I, J) Q) ∧ (¬ i7 = i4 → qC d 254 [.ref 105, .int i7, .int i5] g I J (fun v _ _ _ => ∃ r1, v = some (.int r1) ∧ ((r1 = 0 → qev (d + 1) 257 (174, [.ref 105, .int i1, .int i2, .int i3, .int i4, .int i5, .int i6, .int (i7 + (nI 1))], [], g, I, J) Q) ∧ (¬ r1 = 0 → qC d 255 [.ref 105, .int i4, .int i7, .int i5, .int i1] g I J (fun v _ I1 _ => v = none ∧ qev (d + 1) 257 (174, [.ref 105, .int i1, .int i2, .int i3, .int i4, .int i5, .int i6, .int (i7 + (nI 1))], [], g, I1, J) Q))))))))) : qev (d + 1) 257 (174, [.ref 105, .int i1, .int i2, .int i3, .int i4, .int i5, .int i6, .int i7], [], g, I, J) Q := by
  refine e_next (pc' := 176) rfl rfl ?_
  refine e_next (pc' := 177) rfl rfl ?_
  refine e_icmp (i3 ≤ i7) (pc' := 180) rfl rfl e_d (fun hc => ?_) (fun hc => ?_)
  · replace h := h.1 hc
    refine e_next (pc' := 216) rfl rfl ?_
    refine e_getR (pc' := 219) rfl rfl (hs.o rfl) (hs.a rfl) ?_
    refine e_next (pc' := 221) rfl rfl ?_
    refine e_next (pc' := 223) rfl rfl ?_
    obtain ⟨k1, hi_k1, hj_k1, h⟩ := h
    refine e_iast k1 (pc' := 224) rfl rfl (hs.k rfl) hi_k1 hj_k1 (by decide) ?_
    refine e_iinc (pc' := 227) (ls' := [_, _, _, _, _, _, _, _]) (v := (nI 1)) rfl rfl kc_1 rfl rfl ?_
    refine e_iinc (pc' := 230) (ls' := [_, _, _, _, _, _, _, _]) (v := (nI 1)) rfl rfl kc_1 rfl rfl ?_
    refine e_next (pc' := 120) rfl rfl ?_
    exact h
  · replace h := h.2 hc
    refine e_next (pc' := 182) rfl rfl ?_
    refine e_next (pc' := 184) rfl rfl ?_
    refine e_icmp (i7 = i4) (pc' := 187) rfl rfl e_d (fun hc => ?_) (fun hc => ?_)
    · replace h := h.1 hc
      refine e_iinc (pc' := 212) (ls' := [_, _, _, _, _, _, _, _]) (v := (nI 1)) rfl rfl kc_1 rfl rfl ?_
      refine e_next (pc' := 174) rfl rfl ?_
      exact h
    · replace h := h.2 hc
      refine e_next (pc' := 188) rfl rfl ?_
      refine e_next (pc' := 190) rfl rfl ?_
      refine e_next (pc' := 192) rfl rfl ?_
      refine e_cpI (pc' := 195) rfl (e_sV (as := [_, _]) (fun _ => rfl) (Or.inl rfl) rfl (hs.o rfl) rfl rfl (Nat.le_of_ble_eq_true rfl) (Nat.le_of_ble_eq_true rfl) rfl) rfl rfl rfl ?_
      refine qev.mono h (fun v _ _ _ h => ?_)
      obtain ⟨r1, rfl, h⟩ := h
      refine ⟨r1, rfl, ?_⟩
      refine e_if (r1 = 0) (pc' := 198) rfl rfl e_d (fun hc => ?_) (fun hc => ?_)
      · replace h := h.1 hc
        refine e_iinc (pc' := 212) (ls' := [_, _, _, _, _, _, _, _]) (v := (nI 1)) rfl rfl kc_1 rfl rfl ?_
        refine e_next (pc' := 174) rfl rfl ?_
        exact h
      · replace h := h.2 hc
        refine e_next (pc' := 199) rfl rfl ?_
        refine e_next (pc' := 201) rfl rfl ?_
        refine e_next (pc' := 203) rfl rfl ?_
        refine e_next (pc' := 205) rfl rfl ?_
        refine e_next (pc' := 206) rfl rfl ?_
        refine e_ciV (pc' := 209) rfl (e_sV (as := [_, _, _, _]) (fun _ => rfl) (Or.inl rfl) rfl (hs.o rfl) rfl rfl (Nat.le_of_ble_eq_true rfl) (Nat.le_of_ble_eq_true rfl) rfl) rfl rfl ?_
        refine qev.mono h (fun v _ I1 _ h => ?_)
        obtain ⟨rfl, h⟩ := h
        refine ⟨rfl, ?_⟩
        refine e_iinc (pc' := 212) (ls' := [_, _, _, _, _, _, _, _]) (v := (nI 1)) rfl rfl kc_1 rfl rfl ?_
        refine e_next (pc' := 174) rfl rfl ?_
        exact h
theorem w257_237 {d : Nat} {i1 : Int32} {i2 : Int32} {i3 : Int32} {i4 : Int32} {i5 : Int32} {w6 : Value} {w7 : Value} {g : qG} {I : qI} {J : qJ} {Q : qQ} (hs : qSh g)  (h : ((i3 ≤ i5 → qev (d + 1) 257 (264, [.ref 105, .int i1, .int i2, .int i3, .int i4, .int (nI 0), w6, w7], [], g, I, J) Q) ∧ (¬ i3 ≤ i5 → qC d 254 [.ref 105, .int i5, .int i1] g I J (fun v _ _ _ => ∃ r1, v = some (.int r1) ∧ ((r1 = 0 → qev (d + 1) 257 (237, [.ref 105, .int i1, .int i2, .int i3, .int i4, .int (i5 + (nI 1)), w6, w7], [], g, I, J) Q) ∧ (¬ r1 = 0 → Q (some (.int (nI 0))) g I J)))))) : qev (d + 1) 257 (237, [.ref 105, .int i1, .int i2, .int i3, .int i4, .int i5, w6, w7], [], g, I, J) Q := by
  refine e_next (pc' := 239) rfl rfl ?_
  refine e_next (pc' := 240) rfl rfl ?_
  refine e_icmp (i3 ≤ i5) (pc' := 243) rfl rfl e_d (fun hc => ?_) (fun hc => ?_)
  · replace h := h.1 hc
    refine e_iconst (pc' := 262) rfl rfl kc_0 ?_
    refine e_next (pc' := 264) (ls' := [_, _, _, _, _, _, _, _]) rfl rfl ?_
    exact h
  · replace h := h.2 hc
    refine e_next (pc' := 244) rfl rfl ?_
    refine e_next (pc' := 246) rfl rfl ?_
    refine e_next (pc' := 247) rfl rfl ?_
    refine e_cpI (pc' := 250) rfl (e_sV (as := [_, _]) (fun _ => rfl) (Or.inl rfl) rfl (hs.o rfl) rfl rfl (Nat.le_of_ble_eq_true rfl) (Nat.le_of_ble_eq_true rfl) rfl) rfl rfl rfl ?_
    refine qev.mono h (fun v _ _ _ h => ?_)
    obtain ⟨r1, rfl, h⟩ := h
    refine ⟨r1, rfl, ?_⟩
    refine e_if (r1 = 0) (pc' := 253) rfl rfl e_d (fun hc => ?_) (fun hc => ?_)
    · replace h := h.1 hc
      refine e_iinc (pc' := 258) (ls' := [_, _, _, _, _, _, _, _]) (v := (nI 1)) rfl rfl kc_1 rfl rfl ?_
      refine e_next (pc' := 237) rfl rfl ?_
      exact h
    · replace h := h.2 hc
      refine e_iconst (pc' := 254) rfl rfl kc_0 ?_
      exact e_zret rfl (Or.inl nI_0) h
theorem w257_264 {d : Nat} {i1 : Int32} {i2 : Int32} {i3 : Int32} {i4 : Int32} {i5 : Int32} {w6 : Value} {w7 : Value} {g : qG} {I : qI} {J : qJ} {Q : qQ} (hs : qSh g)  (h : ((i1 ≤ i5 → Q (some (.int (nI 1))) g I J) ∧ (¬ i1 ≤ i5 → ∃ k1, i5 = nI k1 ∧ k1 < 24 ∧ (((I 118 k1) = (-1) → qev (d + 1) 257 (264, [.ref 105, .int i1, .int i2, .int i3, .int i4, .int (i5 + (nI 1)), w6, w7], [], g, I, J) Q) ∧ (¬ (I 118 k1) = (-1) → ∃ k2, i5 = nI k2 ∧ k2 < 24 ∧ qC d 254 [.ref 105, .int (I 118 k2), .int i1] g I J (fun v _ _ _ => ∃ r1, v = some (.int r1) ∧ ∃ k3, i5 = nI k3 ∧ k3 < 24 ∧ qC d 254 [.ref 105, .int (I 118 k3), .int i5] g I J (fun v _ _ _ => ∃ r2, v = some (.int r2) ∧ qC d 179 [.ref 105, .int r2] g I J (fun v _ _ _ => ∃ r3, v = some (.int r3) ∧ qC d 178 [.ref 105, .long ((Int32.toInt64 r1) * (Int32.toInt64 r3))] g I J (fun v _ _ _ => ∃ r4, v = some (.int r4) ∧ qC d 183 [.ref 105, .int (nI 40), .int i5, .int r4] g I J (fun v _ I1 _ => v = none ∧ qev (d + 1) 257 (264, [.ref 105, .int i1, .int i2, .int i3, .int i4, .int (i5 + (nI 1)), w6, w7], [], g, I1, J) Q)))))))))) : qev (d + 1) 257 (264, [.ref 105, .int i1, .int i2, .int i3, .int i4, .int i5, w6, w7], [], g, I, J) Q := by
  refine e_next (pc' := 266) rfl rfl ?_
  refine e_next (pc' := 267) rfl rfl ?_
  refine e_icmp (i1 ≤ i5) (pc' := 270) rfl rfl e_d (fun hc => ?_) (fun hc => ?_)
  · replace h := h.1 hc
    refine e_iconst (pc' := 332) rfl rfl kc_1 ?_
    exact e_zret rfl (Or.inr nI_one) h
  · replace h := h.2 hc
    refine e_next (pc' := 271) rfl rfl ?_
    refine e_getR (pc' := 274) rfl rfl (hs.o rfl) (hs.a rfl) ?_
    refine e_next (pc' := 276) rfl rfl ?_
    obtain ⟨k1, hi_k1, hj_k1, h⟩ := h
    refine e_iald k1 (pc' := 277) rfl rfl (hs.k rfl) hi_k1 hj_k1 (by decide) ?_
    refine e_iconst (pc' := 278) rfl rfl kc_m1 ?_
    refine e_icmp ((I 118 k1) = (-1)) (pc' := 281) rfl rfl e_d (fun hc => ?_) (fun hc => ?_)
    · replace h := h.1 hc
      refine e_iinc (pc' := 328) (ls' := [_, _, _, _, _, _, _, _]) (v := (nI 1)) rfl rfl kc_1 rfl rfl ?_
      refine e_next (pc' := 264) rfl rfl ?_
      exact h
    · replace h := h.2 hc
      refine e_next (pc' := 282) rfl rfl ?_
      refine e_bipush (pc' := 284) rfl rfl kb_40 ?_
      refine e_next (pc' := 286) rfl rfl ?_
      refine e_next (pc' := 287) rfl rfl ?_
      refine e_next (pc' := 288) rfl rfl ?_
      refine e_next (pc' := 289) rfl rfl ?_
      refine e_getR (pc' := 292) rfl rfl (hs.o rfl) (hs.a rfl) ?_
      refine e_next (pc' := 294) rfl rfl ?_
      obtain ⟨k2, hi_k2, hj_k2, h⟩ := h
      refine e_iald k2 (pc' := 295) rfl rfl (hs.k rfl) hi_k2 hj_k2 (by decide) ?_
      refine e_next (pc' := 296) rfl rfl ?_
      refine e_cpI (pc' := 299) rfl (e_sV (as := [_, _]) (fun _ => rfl) (Or.inl rfl) rfl (hs.o rfl) rfl rfl (Nat.le_of_ble_eq_true rfl) (Nat.le_of_ble_eq_true rfl) rfl) rfl rfl rfl ?_
      refine qev.mono h (fun v _ _ _ h => ?_)
      obtain ⟨r1, rfl, h⟩ := h
      refine ⟨r1, rfl, ?_⟩
      refine e_next (pc' := 300) rfl rfl ?_
      refine e_next (pc' := 301) rfl rfl ?_
      refine e_next (pc' := 302) rfl rfl ?_
      refine e_next (pc' := 303) rfl rfl ?_
      refine e_getR (pc' := 306) rfl rfl (hs.o rfl) (hs.a rfl) ?_
      refine e_next (pc' := 308) rfl rfl ?_
      obtain ⟨k3, hi_k3, hj_k3, h⟩ := h
      refine e_iald k3 (pc' := 309) rfl rfl (hs.k rfl) hi_k3 hj_k3 (by decide) ?_
      refine e_next (pc' := 311) rfl rfl ?_
      refine e_cpI (pc' := 314) rfl (e_sV (as := [_, _]) (fun _ => rfl) (Or.inl rfl) rfl (hs.o rfl) rfl rfl (Nat.le_of_ble_eq_true rfl) (Nat.le_of_ble_eq_true rfl) rfl) rfl rfl rfl ?_
      refine qev.mono h (fun v _ _ _ h => ?_)
      obtain ⟨r2, rfl, h⟩ := h
      refine ⟨r2, rfl, ?_⟩
      refine e_cpI (pc' := 317) rfl (e_sV (as := [_]) (fun _ => rfl) (Or.inl rfl) rfl (hs.o rfl) rfl rfl (Nat.le_of_ble_eq_true rfl) (Nat.le_of_ble_eq_true rfl) rfl) rfl rfl rfl ?_
      refine qev.mono h (fun v _ _ _ h => ?_)
      obtain ⟨r3, rfl, h⟩ := h
      refine ⟨r3, rfl, ?_⟩
      refine e_next (pc' := 318) rfl rfl ?_
      refine e_next (pc' := 319) rfl rfl ?_
      refine e_cpI (pc' := 322) rfl (e_sV (as := [_]) (fun _ => rfl) (Or.inl rfl) rfl (hs.o rfl) rfl rfl (Nat.le_of_ble_eq_true rfl) (Nat.le_of_ble_eq_true rfl) rfl) rfl rfl rfl ?_
      refine qev.mono h (fun v _ _ _ h => ?_)
      obtain ⟨r4, rfl, h⟩ := h
      refine ⟨r4, rfl, ?_⟩
      refine e_ciV (pc' := 325) rfl (e_sV (as := [_, _, _]) (fun _ => rfl) (Or.inl rfl) rfl (hs.o rfl) rfl rfl (Nat.le_of_ble_eq_true rfl) (Nat.le_of_ble_eq_true rfl) rfl) rfl rfl ?_
      refine qev.mono h (fun v _ I1 _ h => ?_)
      obtain ⟨rfl, h⟩ := h
      refine ⟨rfl, ?_⟩
      refine e_iinc (pc' := 328) (ls' := [_, _, _, _, _, _, _, _]) (v := (nI 1)) rfl rfl kc_1 rfl rfl ?_
      refine e_next (pc' := 264) rfl rfl ?_
      exact h
theorem w258 {d : Nat} {x1 : Int32} {x2 : Int32} {g : qG} {I : qI} {J : qJ} {Q : qQ} (hs : qSh g)  (h : qC d 215 [.ref 105, .int x1] g (qw I 105 0 (nI 0)) J (fun v _ _ _ => ∃ r1, v = some (.int r1) ∧ ((r1 = 0 → Q (some (.int (-1))) g (qw I 105 0 (nI 0)) J) ∧ (¬ r1 = 0 → qC d 225 [.ref 105, .int x1, .int (nI 0)] g (qw I 105 0 (nI 0)) J (fun v _ I1 _ => v = none ∧ qC d 180 [.ref 105, .int (nI 0)] g I1 J (fun v _ _ _ => ∃ r2, v = some (.int r2) ∧ qev (d + 1) 258 (30, [.ref 105, .int x1, .int x2, .int r2, .int (nI 0)], [], g, I1, J) Q)))))) : qC (d + 1) 258 [.ref 105, .int x1, .int x2] g I J Q := by
  show qev (d + 1) 258 (0, [.ref 105, .int x1, .int x2, qpad, qpad], [], g, I, J) Q
  refine e_next (pc' := 1) rfl rfl ?_
  refine e_iconst (pc' := 2) rfl rfl kc_0 ?_
  refine e_putI (pc' := 5) rfl rfl (hs.o rfl) ?_
  refine e_next (pc' := 6) rfl rfl ?_
  refine e_next (pc' := 7) rfl rfl ?_
  refine e_cpI (pc' := 10) rfl (e_sV (as := [_]) (fun _ => rfl) (Or.inl rfl) rfl (hs.o rfl) rfl rfl (Nat.le_of_ble_eq_true rfl) (Nat.le_of_ble_eq_true rfl) rfl) rfl rfl rfl ?_
  refine qev.mono h (fun v _ _ _ h => ?_)
  obtain ⟨r1, rfl, h⟩ := h
  refine ⟨r1, rfl, ?_⟩
  refine e_if (¬ r1 = 0) (pc' := 13) rfl rfl e_d (fun hc => ?_) (fun hc => ?_)
  · replace h := h.2 hc
    refine e_next (pc' := 16) rfl rfl ?_
    refine e_next (pc' := 17) rfl rfl ?_
    refine e_iconst (pc' := 18) rfl rfl kc_0 ?_
    refine e_ciV (pc' := 21) rfl (e_sV (as := [_, _]) (fun _ => rfl) (Or.inl rfl) rfl (hs.o rfl) rfl rfl (Nat.le_of_ble_eq_true rfl) (Nat.le_of_ble_eq_true rfl) rfl) rfl rfl ?_
    refine qev.mono h (fun v _ I1 _ h => ?_)
    obtain ⟨rfl, h⟩ := h
    refine ⟨rfl, ?_⟩
    refine e_next (pc' := 22) rfl rfl ?_
    refine e_iconst (pc' := 23) rfl rfl kc_0 ?_
    refine e_cpI (pc' := 26) rfl (e_sV (as := [_]) (fun _ => rfl) (Or.inl rfl) rfl (hs.o rfl) rfl rfl (Nat.le_of_ble_eq_true rfl) (Nat.le_of_ble_eq_true rfl) rfl) rfl rfl rfl ?_
    refine qev.mono h (fun v _ _ _ h => ?_)
    obtain ⟨r2, rfl, h⟩ := h
    refine ⟨r2, rfl, ?_⟩
    refine e_next (pc' := 27) (ls' := [_, _, _, _, _]) rfl rfl ?_
    refine e_iconst (pc' := 28) rfl rfl kc_0 ?_
    refine e_next (pc' := 30) (ls' := [_, _, _, _, _]) rfl rfl ?_
    exact h
  · replace h := h.1 (Decidable.not_not.mp hc)
    refine e_iconst (pc' := 14) rfl rfl kc_m1 ?_
    exact e_iret rfl h
theorem w258_30 {d : Nat} {i1 : Int32} {i2 : Int32} {i3 : Int32} {i4 : Int32} {g : qG} {I : qI} {J : qJ} {Q : qQ} (hs : qSh g)  (h : ((i3 < ((nI 2) * i4) → ((((nI 2) * i4) ≤ i3 → ((i2 = 0 → Q (some (.int i4)) g I J) ∧ (¬ i2 = 0 → qC d 147 [.long (Int32.toInt64 i2), .long (lN 1), .long (Int32.toInt64 i4)] g I J (fun v _ _ _ => ∃ r1, v = some (.int r1) ∧ ((r1 = 0 → Q (some (.int (-1))) g I J) ∧ (¬ r1 = 0 → qC d 182 [.ref 105, .int (nI 40), .int (i2 - (nI 1))] g I J (fun v _ _ _ => ∃ r2, v = some (.int r2) ∧ Q (some (.int r2)) g I J))))))) ∧ (¬ ((nI 2) * i4) ≤ i3 → Q (some (.int (-1))) g I J))) ∧ (¬ i3 < ((nI 2) * i4) → qC d 257 [.ref 105, .int i4, .int i3] g I J (fun v _ I1 _ => ∃ r3, v = some (.int r3) ∧ ((r3 = 0 → qev (d + 1) 258 (30, [.ref 105, .int i1, .int i2, .int i3, .int (i4 + (nI 1))], [], g, I1, J) Q) ∧ (¬ r3 = 0 → ((((nI 2) * i4) ≤ i3 → ((i2 = 0 → Q (some (.int i4)) g I1 J) ∧ (¬ i2 = 0 → qC d 147 [.long (Int32.toInt64 i2), .long (lN 1), .long (Int32.toInt64 i4)] g I1 J (fun v _ _ _ => ∃ r4, v = some (.int r4) ∧ ((r4 = 0 → Q (some (.int (-1))) g I1 J) ∧ (¬ r4 = 0 → qC d 182 [.ref 105, .int (nI 40), .int (i2 - (nI 1))] g I1 J (fun v _ _ _ => ∃ r5, v = some (.int r5) ∧ Q (some (.int r5)) g I1 J))))))) ∧ (¬ ((nI 2) * i4) ≤ i3 → Q (some (.int (-1))) g I1 J)))))))) : qev (d + 1) 258 (30, [.ref 105, .int i1, .int i2, .int i3, .int i4], [], g, I, J) Q := by
  refine e_iconst (pc' := 31) rfl rfl kc_2 ?_
  refine e_next (pc' := 33) rfl rfl ?_
  refine e_next (pc' := 34) rfl rfl ?_
  refine e_next (pc' := 35) rfl rfl ?_
  refine e_icmp (i3 < ((nI 2) * i4)) (pc' := 38) rfl rfl e_d (fun hc => ?_) (fun hc => ?_)
  · replace h := h.1 hc
    refine e_iconst (pc' := 55) rfl rfl kc_2 ?_
    refine e_next (pc' := 57) rfl rfl ?_
    refine e_next (pc' := 58) rfl rfl ?_
    refine e_next (pc' := 59) rfl rfl ?_
    refine e_icmp (((nI 2) * i4) ≤ i3) (pc' := 62) rfl rfl e_d (fun hc => ?_) (fun hc => ?_)
    · replace h := h.1 hc
      refine e_next (pc' := 65) rfl rfl ?_
      refine e_if (¬ i2 = 0) (pc' := 68) rfl rfl e_d (fun hc => ?_) (fun hc => ?_)
      · replace h := h.2 hc
        refine e_next (pc' := 74) rfl rfl ?_
        refine e_next (pc' := 75) rfl rfl ?_
        refine e_lconst (pc' := 76) rfl rfl kl_1 ?_
        refine e_next (pc' := 78) rfl rfl ?_
        refine e_next (pc' := 79) rfl rfl ?_
        refine e_cpI (pc' := 82) rfl (e_sS (as := [_, _, _]) (fun _ => rfl) rfl (Nat.le_of_ble_eq_true rfl) rfl rfl (Nat.le_of_ble_eq_true rfl) (Nat.le_of_ble_eq_true rfl) rfl) rfl rfl rfl ?_
        refine qev.mono h (fun v _ _ _ h => ?_)
        obtain ⟨r1, rfl, h⟩ := h
        refine ⟨r1, rfl, ?_⟩
        refine e_if (r1 = 0) (pc' := 85) rfl rfl e_d (fun hc => ?_) (fun hc => ?_)
        · replace h := h.1 hc
          refine e_iconst (pc' := 98) rfl rfl kc_m1 ?_
          exact e_iret rfl h
        · replace h := h.2 hc
          refine e_next (pc' := 86) rfl rfl ?_
          refine e_bipush (pc' := 88) rfl rfl kb_40 ?_
          refine e_next (pc' := 89) rfl rfl ?_
          refine e_iconst (pc' := 90) rfl rfl kc_1 ?_
          refine e_next (pc' := 91) rfl rfl ?_
          refine e_cpI (pc' := 94) rfl (e_sV (as := [_, _]) (fun _ => rfl) (Or.inl rfl) rfl (hs.o rfl) rfl rfl (Nat.le_of_ble_eq_true rfl) (Nat.le_of_ble_eq_true rfl) rfl) rfl rfl rfl ?_
          refine qev.mono h (fun v _ _ _ h => ?_)
          obtain ⟨r2, rfl, h⟩ := h
          refine ⟨r2, rfl, ?_⟩
          refine e_next (pc' := 98) rfl rfl ?_
          exact e_iret rfl h
      · replace h := h.1 (Decidable.not_not.mp hc)
        refine e_next (pc' := 70) rfl rfl ?_
        refine e_next (pc' := 98) rfl rfl ?_
        exact e_iret rfl h
    · replace h := h.2 hc
      refine e_iconst (pc' := 63) rfl rfl kc_m1 ?_
      exact e_iret rfl h
  · replace h := h.2 hc
    refine e_next (pc' := 39) rfl rfl ?_
    refine e_next (pc' := 41) rfl rfl ?_
    refine e_next (pc' := 42) rfl rfl ?_
    refine e_ciI (pc' := 45) rfl (e_sV (as := [_, _]) (fun _ => rfl) (Or.inl rfl) rfl (hs.o rfl) rfl rfl (Nat.le_of_ble_eq_true rfl) (Nat.le_of_ble_eq_true rfl) rfl) rfl rfl ?_
    refine qev.mono h (fun v _ I1 _ h => ?_)
    obtain ⟨r3, rfl, h⟩ := h
    refine ⟨r3, rfl, ?_⟩
    refine e_if (¬ r3 = 0) (pc' := 48) rfl rfl e_d (fun hc => ?_) (fun hc => ?_)
    · replace h := h.2 hc
      refine e_iconst (pc' := 55) rfl rfl kc_2 ?_
      refine e_next (pc' := 57) rfl rfl ?_
      refine e_next (pc' := 58) rfl rfl ?_
      refine e_next (pc' := 59) rfl rfl ?_
      refine e_icmp (((nI 2) * i4) ≤ i3) (pc' := 62) rfl rfl e_d (fun hc => ?_) (fun hc => ?_)
      · replace h := h.1 hc
        refine e_next (pc' := 65) rfl rfl ?_
        refine e_if (¬ i2 = 0) (pc' := 68) rfl rfl e_d (fun hc => ?_) (fun hc => ?_)
        · replace h := h.2 hc
          refine e_next (pc' := 74) rfl rfl ?_
          refine e_next (pc' := 75) rfl rfl ?_
          refine e_lconst (pc' := 76) rfl rfl kl_1 ?_
          refine e_next (pc' := 78) rfl rfl ?_
          refine e_next (pc' := 79) rfl rfl ?_
          refine e_cpI (pc' := 82) rfl (e_sS (as := [_, _, _]) (fun _ => rfl) rfl (Nat.le_of_ble_eq_true rfl) rfl rfl (Nat.le_of_ble_eq_true rfl) (Nat.le_of_ble_eq_true rfl) rfl) rfl rfl rfl ?_
          refine qev.mono h (fun v _ _ _ h => ?_)
          obtain ⟨r4, rfl, h⟩ := h
          refine ⟨r4, rfl, ?_⟩
          refine e_if (r4 = 0) (pc' := 85) rfl rfl e_d (fun hc => ?_) (fun hc => ?_)
          · replace h := h.1 hc
            refine e_iconst (pc' := 98) rfl rfl kc_m1 ?_
            exact e_iret rfl h
          · replace h := h.2 hc
            refine e_next (pc' := 86) rfl rfl ?_
            refine e_bipush (pc' := 88) rfl rfl kb_40 ?_
            refine e_next (pc' := 89) rfl rfl ?_
            refine e_iconst (pc' := 90) rfl rfl kc_1 ?_
            refine e_next (pc' := 91) rfl rfl ?_
            refine e_cpI (pc' := 94) rfl (e_sV (as := [_, _]) (fun _ => rfl) (Or.inl rfl) rfl (hs.o rfl) rfl rfl (Nat.le_of_ble_eq_true rfl) (Nat.le_of_ble_eq_true rfl) rfl) rfl rfl rfl ?_
            refine qev.mono h (fun v _ _ _ h => ?_)
            obtain ⟨r5, rfl, h⟩ := h
            refine ⟨r5, rfl, ?_⟩
            refine e_next (pc' := 98) rfl rfl ?_
            exact e_iret rfl h
        · replace h := h.1 (Decidable.not_not.mp hc)
          refine e_next (pc' := 70) rfl rfl ?_
          refine e_next (pc' := 98) rfl rfl ?_
          exact e_iret rfl h
      · replace h := h.2 hc
        refine e_iconst (pc' := 63) rfl rfl kc_m1 ?_
        exact e_iret rfl h
    · replace h := h.1 (Decidable.not_not.mp hc)
      refine e_iinc (pc' := 51) (ls' := [_, _, _, _, _]) (v := (nI 1)) rfl rfl kc_1 rfl rfl ?_
      refine e_next (pc' := 30) rfl rfl ?_
      exact h
theorem w259 {d : Nat} {x1 : Int32} {g : qG} {I : qI} {J : qJ} {Q : qQ} (hs : qSh g)  (h : qC d 215 [.ref 105, .int x1] g (qw I 105 0 (nI 0)) J (fun v _ _ _ => ∃ r1, v = some (.int r1) ∧ ((r1 = 0 → Q (some (.int (-1))) g (qw I 105 0 (nI 0)) J) ∧ (¬ r1 = 0 → qC d 225 [.ref 105, .int x1, .int (nI 0)] g (qw I 105 0 (nI 0)) J (fun v _ I1 _ => v = none ∧ qC d 184 [.ref 105, .int (nI 0), .int (nI 40)] g I1 J (fun v _ I2 _ => v = none ∧ qC d 180 [.ref 105, .int (nI 0)] g I2 J (fun v _ _ _ => ∃ r2, v = some (.int r2) ∧ qev (d + 1) 259 (36, [.ref 105, .int x1, .int r2, .int (nI 1), qpad, qpad], [], g, I2, J) Q))))))) : qC (d + 1) 259 [.ref 105, .int x1] g I J Q := by
  show qev (d + 1) 259 (0, [.ref 105, .int x1, qpad, qpad, qpad, qpad], [], g, I, J) Q
  refine e_next (pc' := 1) rfl rfl ?_
  refine e_iconst (pc' := 2) rfl rfl kc_0 ?_
  refine e_putI (pc' := 5) rfl rfl (hs.o rfl) ?_
  refine e_next (pc' := 6) rfl rfl ?_
  refine e_next (pc' := 7) rfl rfl ?_
  refine e_cpI (pc' := 10) rfl (e_sV (as := [_]) (fun _ => rfl) (Or.inl rfl) rfl (hs.o rfl) rfl rfl (Nat.le_of_ble_eq_true rfl) (Nat.le_of_ble_eq_true rfl) rfl) rfl rfl rfl ?_
  refine qev.mono h (fun v _ _ _ h => ?_)
  obtain ⟨r1, rfl, h⟩ := h
  refine ⟨r1, rfl, ?_⟩
  refine e_if (¬ r1 = 0) (pc' := 13) rfl rfl e_d (fun hc => ?_) (fun hc => ?_)
  · replace h := h.2 hc
    refine e_next (pc' := 16) rfl rfl ?_
    refine e_next (pc' := 17) rfl rfl ?_
    refine e_iconst (pc' := 18) rfl rfl kc_0 ?_
    refine e_ciV (pc' := 21) rfl (e_sV (as := [_, _]) (fun _ => rfl) (Or.inl rfl) rfl (hs.o rfl) rfl rfl (Nat.le_of_ble_eq_true rfl) (Nat.le_of_ble_eq_true rfl) rfl) rfl rfl ?_
    refine qev.mono h (fun v _ I1 _ h => ?_)
    obtain ⟨rfl, h⟩ := h
    refine ⟨rfl, ?_⟩
    refine e_next (pc' := 22) rfl rfl ?_
    refine e_iconst (pc' := 23) rfl rfl kc_0 ?_
    refine e_bipush (pc' := 25) rfl rfl kb_40 ?_
    refine e_ciV (pc' := 28) rfl (e_sV (as := [_, _]) (fun _ => rfl) (Or.inl rfl) rfl (hs.o rfl) rfl rfl (Nat.le_of_ble_eq_true rfl) (Nat.le_of_ble_eq_true rfl) rfl) rfl rfl ?_
    refine qev.mono h (fun v _ I2 _ h => ?_)
    obtain ⟨rfl, h⟩ := h
    refine ⟨rfl, ?_⟩
    refine e_next (pc' := 29) rfl rfl ?_
    refine e_iconst (pc' := 30) rfl rfl kc_0 ?_
    refine e_cpI (pc' := 33) rfl (e_sV (as := [_]) (fun _ => rfl) (Or.inl rfl) rfl (hs.o rfl) rfl rfl (Nat.le_of_ble_eq_true rfl) (Nat.le_of_ble_eq_true rfl) rfl) rfl rfl rfl ?_
    refine qev.mono h (fun v _ _ _ h => ?_)
    obtain ⟨r2, rfl, h⟩ := h
    refine ⟨r2, rfl, ?_⟩
    refine e_next (pc' := 34) (ls' := [_, _, _, _, _, _]) rfl rfl ?_
    refine e_iconst (pc' := 35) rfl rfl kc_1 ?_
    refine e_next (pc' := 36) (ls' := [_, _, _, _, _, _]) rfl rfl ?_
    exact h
  · replace h := h.1 (Decidable.not_not.mp hc)
    refine e_iconst (pc' := 14) rfl rfl kc_m1 ?_
    exact e_iret rfl h
theorem w259_36 {d : Nat} {i1 : Int32} {i2 : Int32} {i3 : Int32} {w4 : Value} {w5 : Value} {g : qG} {I : qI} {J : qJ} {Q : qQ} (hs : qSh g)  (h : (((nI 99) < i3 → Q (some (.int (-1))) g I J) ∧ (¬ (nI 99) < i3 → qC d 182 [.ref 105, .int (nI 40), .int (nI 0)] g I J (fun v _ _ _ => ∃ r1, v = some (.int r1) ∧ qC d 178 [.ref 105, .long (lN 1)] g I J (fun v _ _ _ => ∃ r2, v = some (.int r2) ∧ ((r1 = r2 → qev (d + 1) 259 (67, [.ref 105, .int i1, .int i2, .int i3, .int (nI 1), .int (nI 1)], [], g, I, J) Q) ∧ (¬ r1 = r2 → qev (d + 1) 259 (67, [.ref 105, .int i1, .int i2, .int i3, .int (nI 0), .int (nI 1)], [], g, I, J) Q))))))) : qev (d + 1) 259 (36, [.ref 105, .int i1, .int i2, .int i3, w4, w5], [], g, I, J) Q := by
  refine e_next (pc' := 37) rfl rfl ?_
  refine e_bipush (pc' := 39) rfl rfl kb_99 ?_
  refine e_icmp ((nI 99) < i3) (pc' := 42) rfl rfl e_d (fun hc => ?_) (fun hc => ?_)
  · replace h := h.1 hc
    refine e_iconst (pc' := 134) rfl rfl kc_m1 ?_
    exact e_iret rfl h
  · replace h := h.2 hc
    refine e_next (pc' := 43) rfl rfl ?_
    refine e_bipush (pc' := 45) rfl rfl kb_40 ?_
    refine e_iconst (pc' := 46) rfl rfl kc_0 ?_
    refine e_cpI (pc' := 49) rfl (e_sV (as := [_, _]) (fun _ => rfl) (Or.inl rfl) rfl (hs.o rfl) rfl rfl (Nat.le_of_ble_eq_true rfl) (Nat.le_of_ble_eq_true rfl) rfl) rfl rfl rfl ?_
    refine qev.mono h (fun v _ _ _ h => ?_)
    obtain ⟨r1, rfl, h⟩ := h
    refine ⟨r1, rfl, ?_⟩
    refine e_next (pc' := 50) rfl rfl ?_
    refine e_lconst (pc' := 51) rfl rfl kl_1 ?_
    refine e_cpI (pc' := 54) rfl (e_sV (as := [_]) (fun _ => rfl) (Or.inl rfl) rfl (hs.o rfl) rfl rfl (Nat.le_of_ble_eq_true rfl) (Nat.le_of_ble_eq_true rfl) rfl) rfl rfl rfl ?_
    refine qev.mono h (fun v _ _ _ h => ?_)
    obtain ⟨r2, rfl, h⟩ := h
    refine ⟨r2, rfl, ?_⟩
    refine e_icmp (¬ r1 = r2) (pc' := 57) rfl rfl e_d (fun hc => ?_) (fun hc => ?_)
    · replace h := h.2 hc
      refine e_iconst (pc' := 62) rfl rfl kc_0 ?_
      refine e_next (pc' := 64) (ls' := [_, _, _, _, _, _]) rfl rfl ?_
      refine e_iconst (pc' := 65) rfl rfl kc_1 ?_
      refine e_next (pc' := 67) (ls' := [_, _, _, _, _, _]) rfl rfl ?_
      exact h
    · replace h := h.1 (Decidable.not_not.mp hc)
      refine e_iconst (pc' := 58) rfl rfl kc_1 ?_
      refine e_next (pc' := 62) rfl rfl ?_
      refine e_next (pc' := 64) (ls' := [_, _, _, _, _, _]) rfl rfl ?_
      refine e_iconst (pc' := 65) rfl rfl kc_1 ?_
      refine e_next (pc' := 67) (ls' := [_, _, _, _, _, _]) rfl rfl ?_
      exact h
theorem w259_67 {d : Nat} {i1 : Int32} {i2 : Int32} {i3 : Int32} {i4 : Int32} {i5 : Int32} {g : qG} {I : qI} {J : qJ} {Q : qQ} (hs : qSh g)  (h : ((i2 ≤ i5 → ((i4 = 0 → qC d 192 [.ref 105, .int (nI 40), .int (nI 0), .int (nI 41), .int i2] g I J (fun v _ I1 _ => v = none ∧ qC d 184 [.ref 105, .int (nI 41), .int (nI 40)] g I1 J (fun v _ I2 _ => v = none ∧ qev (d + 1) 259 (36, [.ref 105, .int i1, .int i2, .int (i3 + (nI 1)), .int i4, .int i5], [], g, I2, J) Q))) ∧ (¬ i4 = 0 → Q (some (.int i3)) g I J))) ∧ (¬ i2 ≤ i5 → ((i4 = 0 → qev (d + 1) 259 (67, [.ref 105, .int i1, .int i2, .int i3, .int (nI 0), .int (i5 + (nI 1))], [], g, I, J) Q) ∧ (¬ i4 = 0 → qC d 182 [.ref 105, .int (nI 40), .int i5] g I J (fun v _ _ _ => ∃ r1, v = some (.int r1) ∧ ((r1 = 0 → qev (d + 1) 259 (67, [.ref 105, .int i1, .int i2, .int i3, .int (nI 1), .int (i5 + (nI 1))], [], g, I, J) Q) ∧ (¬ r1 = 0 → qev (d + 1) 259 (67, [.ref 105, .int i1, .int i2, .int i3, .int (nI 0), .int (i5 + (nI 1))], [], g, I, J) Q)))))))) : qev (d + 1) 259 (67, [.ref 105, .int i1, .int i2, .int i3, .int i4, .int i5], [], g, I, J) Q := by
  refine e_next (pc' := 69) rfl rfl ?_
  refine e_next (pc' := 70) rfl rfl ?_
  refine e_icmp (i2 ≤ i5) (pc' := 73) rfl rfl e_d (fun hc => ?_) (fun hc => ?_)
  · replace h := h.1 hc
    refine e_next (pc' := 104) rfl rfl ?_
    refine e_if (i4 = 0) (pc' := 107) rfl rfl e_d (fun hc => ?_) (fun hc => ?_)
    · replace h := h.1 hc
      refine e_next (pc' := 110) rfl rfl ?_
      refine e_bipush (pc' := 112) rfl rfl kb_40 ?_
      refine e_iconst (pc' := 113) rfl rfl kc_0 ?_
      refine e_bipush (pc' := 115) rfl rfl kb_41 ?_
      refine e_next (pc' := 116) rfl rfl ?_
      refine e_ciV (pc' := 119) rfl (e_sV (as := [_, _, _, _]) (fun _ => rfl) (Or.inl rfl) rfl (hs.o rfl) rfl rfl (Nat.le_of_ble_eq_true rfl) (Nat.le_of_ble_eq_true rfl) rfl) rfl rfl ?_
      refine qev.mono h (fun v _ I1 _ h => ?_)
      obtain ⟨rfl, h⟩ := h
      refine ⟨rfl, ?_⟩
      refine e_next (pc' := 120) rfl rfl ?_
      refine e_bipush (pc' := 122) rfl rfl kb_41 ?_
      refine e_bipush (pc' := 124) rfl rfl kb_40 ?_
      refine e_ciV (pc' := 127) rfl (e_sV (as := [_, _]) (fun _ => rfl) (Or.inl rfl) rfl (hs.o rfl) rfl rfl (Nat.le_of_ble_eq_true rfl) (Nat.le_of_ble_eq_true rfl) rfl) rfl rfl ?_
      refine qev.mono h (fun v _ I2 _ h => ?_)
      obtain ⟨rfl, h⟩ := h
      refine ⟨rfl, ?_⟩
      refine e_iinc (pc' := 130) (ls' := [_, _, _, _, _, _]) (v := (nI 1)) rfl rfl kc_1 rfl rfl ?_
      refine e_next (pc' := 36) rfl rfl ?_
      exact h
    · replace h := h.2 hc
      refine e_next (pc' := 108) rfl rfl ?_
      exact e_iret rfl h
  · replace h := h.2 hc
    refine e_next (pc' := 75) rfl rfl ?_
    refine e_if (i4 = 0) (pc' := 78) rfl rfl e_d (fun hc => ?_) (fun hc => ?_)
    · replace h := h.1 hc
      refine e_iconst (pc' := 94) rfl rfl kc_0 ?_
      refine e_next (pc' := 96) (ls' := [_, _, _, _, _, _]) rfl rfl ?_
      refine e_iinc (pc' := 99) (ls' := [_, _, _, _, _, _]) (v := (nI 1)) rfl rfl kc_1 rfl rfl ?_
      refine e_next (pc' := 67) rfl rfl ?_
      exact h
    · replace h := h.2 hc
      refine e_next (pc' := 79) rfl rfl ?_
      refine e_bipush (pc' := 81) rfl rfl kb_40 ?_
      refine e_next (pc' := 83) rfl rfl ?_
      refine e_cpI (pc' := 86) rfl (e_sV (as := [_, _]) (fun _ => rfl) (Or.inl rfl) rfl (hs.o rfl) rfl rfl (Nat.le_of_ble_eq_true rfl) (Nat.le_of_ble_eq_true rfl) rfl) rfl rfl rfl ?_
      refine qev.mono h (fun v _ _ _ h => ?_)
      obtain ⟨r1, rfl, h⟩ := h
      refine ⟨r1, rfl, ?_⟩
      refine e_if (¬ r1 = 0) (pc' := 89) rfl rfl e_d (fun hc => ?_) (fun hc => ?_)
      · replace h := h.2 hc
        refine e_iconst (pc' := 94) rfl rfl kc_0 ?_
        refine e_next (pc' := 96) (ls' := [_, _, _, _, _, _]) rfl rfl ?_
        refine e_iinc (pc' := 99) (ls' := [_, _, _, _, _, _]) (v := (nI 1)) rfl rfl kc_1 rfl rfl ?_
        refine e_next (pc' := 67) rfl rfl ?_
        exact h
      · replace h := h.1 (Decidable.not_not.mp hc)
        refine e_iconst (pc' := 90) rfl rfl kc_1 ?_
        refine e_next (pc' := 94) rfl rfl ?_
        refine e_next (pc' := 96) (ls' := [_, _, _, _, _, _]) rfl rfl ?_
        refine e_iinc (pc' := 99) (ls' := [_, _, _, _, _, _]) (v := (nI 1)) rfl rfl kc_1 rfl rfl ?_
        refine e_next (pc' := 67) rfl rfl ?_
        exact h
theorem w260 {d : Nat} {x1 : Int32} {x2 : Int32} {g : qG} {I : qI} {J : qJ} {Q : qQ} (hs : qSh g)  (h : qC d 215 [.ref 105, .int x1] g (qw I 105 0 (nI 0)) J (fun v _ _ _ => ∃ r1, v = some (.int r1) ∧ ((r1 = 0 → Q (some (.int (-1))) g (qw I 105 0 (nI 0)) J) ∧ (¬ r1 = 0 → ∃ k1, ((nI 25) * x1) = nI k1 ∧ k1 < 381 ∧ qC d 147 [.long (Int32.toInt64 x2), .long (lN 0), .long (Int32.toInt64 (((qw I 105 0 (nI 0)) 111 k1) - (nI 1)))] g (qw I 105 0 (nI 0)) J (fun v _ _ _ => ∃ r2, v = some (.int r2) ∧ ((r2 = 0 → Q (some (.int (-1))) g (qw I 105 0 (nI 0)) J) ∧ (¬ r2 = 0 → qev (d + 1) 260 (41, [.ref 105, .int x1, .int x2, .int (nI 0), .int (nI 0)], [], g, (qw I 105 0 (nI 0)), J) Q))))))) : qC (d + 1) 260 [.ref 105, .int x1, .int x2] g I J Q := by
  show qev (d + 1) 260 (0, [.ref 105, .int x1, .int x2, qpad, qpad], [], g, I, J) Q
  refine e_next (pc' := 1) rfl rfl ?_
  refine e_iconst (pc' := 2) rfl rfl kc_0 ?_
  refine e_putI (pc' := 5) rfl rfl (hs.o rfl) ?_
  refine e_next (pc' := 6) rfl rfl ?_
  refine e_next (pc' := 7) rfl rfl ?_
  refine e_cpI (pc' := 10) rfl (e_sV (as := [_]) (fun _ => rfl) (Or.inl rfl) rfl (hs.o rfl) rfl rfl (Nat.le_of_ble_eq_true rfl) (Nat.le_of_ble_eq_true rfl) rfl) rfl rfl rfl ?_
  refine qev.mono h (fun v _ _ _ h => ?_)
  obtain ⟨r1, rfl, h⟩ := h
  refine ⟨r1, rfl, ?_⟩
  refine e_if (r1 = 0) (pc' := 13) rfl rfl e_d (fun hc => ?_) (fun hc => ?_)
  · replace h := h.1 hc
    refine e_iconst (pc' := 35) rfl rfl kc_m1 ?_
    exact e_iret rfl h
  · replace h := h.2 hc
    refine e_next (pc' := 14) rfl rfl ?_
    refine e_next (pc' := 15) rfl rfl ?_
    refine e_lconst (pc' := 16) rfl rfl kl_0 ?_
    refine e_next (pc' := 17) rfl rfl ?_
    refine e_getR (pc' := 20) rfl rfl (hs.o rfl) (hs.a rfl) ?_
    refine e_bipush (pc' := 22) rfl rfl kb_25 ?_
    refine e_next (pc' := 23) rfl rfl ?_
    refine e_next (pc' := 24) rfl rfl ?_
    obtain ⟨k1, hi_k1, hj_k1, h⟩ := h
    refine e_iald k1 (pc' := 25) rfl rfl (hs.k rfl) hi_k1 hj_k1 (by decide) ?_
    refine e_iconst (pc' := 26) rfl rfl kc_1 ?_
    refine e_next (pc' := 27) rfl rfl ?_
    refine e_next (pc' := 28) rfl rfl ?_
    refine e_cpI (pc' := 31) rfl (e_sS (as := [_, _, _]) (fun _ => rfl) rfl (Nat.le_of_ble_eq_true rfl) rfl rfl (Nat.le_of_ble_eq_true rfl) (Nat.le_of_ble_eq_true rfl) rfl) rfl rfl rfl ?_
    refine qev.mono h (fun v _ _ _ h => ?_)
    obtain ⟨r2, rfl, h⟩ := h
    refine ⟨r2, rfl, ?_⟩
    refine e_if (¬ r2 = 0) (pc' := 34) rfl rfl e_d (fun hc => ?_) (fun hc => ?_)
    · replace h := h.2 hc
      refine e_iconst (pc' := 37) rfl rfl kc_0 ?_
      refine e_next (pc' := 38) (ls' := [_, _, _, _, _]) rfl rfl ?_
      refine e_iconst (pc' := 39) rfl rfl kc_0 ?_
      refine e_next (pc' := 41) (ls' := [_, _, _, _, _]) rfl rfl ?_
      exact h
    · replace h := h.1 (Decidable.not_not.mp hc)
      refine e_iconst (pc' := 35) rfl rfl kc_m1 ?_
      exact e_iret rfl h
theorem w260_41 {d : Nat} {i1 : Int32} {i2 : Int32} {i3 : Int32} {i4 : Int32} {g : qG} {I : qI} {J : qJ} {Q : qQ} (hs : qSh g)  (h : ((i2 < i4 → Q (some (.int i3)) g I J) ∧ (¬ i2 < i4 → ∃ k1, ((((nI 25) * i1) + (nI 1)) + i4) = nI k1 ∧ k1 < 381 ∧ qC d 178 [.ref 105, .long (Int32.toInt64 (i3 + (I 111 k1)))] g I J (fun v _ _ _ => ∃ r1, v = some (.int r1) ∧ qev (d + 1) 260 (41, [.ref 105, .int i1, .int i2, .int r1, .int (i4 + (nI 1))], [], g, I, J) Q)))) : qev (d + 1) 260 (41, [.ref 105, .int i1, .int i2, .int i3, .int i4], [], g, I, J) Q := by
  refine e_next (pc' := 43) rfl rfl ?_
  refine e_next (pc' := 44) rfl rfl ?_
  refine e_icmp (i2 < i4) (pc' := 47) rfl rfl e_d (fun hc => ?_) (fun hc => ?_)
  · replace h := h.1 hc
    refine e_next (pc' := 76) rfl rfl ?_
    exact e_iret rfl h
  · replace h := h.2 hc
    refine e_next (pc' := 48) rfl rfl ?_
    refine e_next (pc' := 49) rfl rfl ?_
    refine e_next (pc' := 50) rfl rfl ?_
    refine e_getR (pc' := 53) rfl rfl (hs.o rfl) (hs.a rfl) ?_
    refine e_bipush (pc' := 55) rfl rfl kb_25 ?_
    refine e_next (pc' := 56) rfl rfl ?_
    refine e_next (pc' := 57) rfl rfl ?_
    refine e_iconst (pc' := 58) rfl rfl kc_1 ?_
    refine e_next (pc' := 59) rfl rfl ?_
    refine e_next (pc' := 61) rfl rfl ?_
    refine e_next (pc' := 62) rfl rfl ?_
    obtain ⟨k1, hi_k1, hj_k1, h⟩ := h
    refine e_iald k1 (pc' := 63) rfl rfl (hs.k rfl) hi_k1 hj_k1 (by decide) ?_
    refine e_next (pc' := 64) rfl rfl ?_
    refine e_next (pc' := 65) rfl rfl ?_
    refine e_cpI (pc' := 68) rfl (e_sV (as := [_]) (fun _ => rfl) (Or.inl rfl) rfl (hs.o rfl) rfl rfl (Nat.le_of_ble_eq_true rfl) (Nat.le_of_ble_eq_true rfl) rfl) rfl rfl rfl ?_
    refine qev.mono h (fun v _ _ _ h => ?_)
    obtain ⟨r1, rfl, h⟩ := h
    refine ⟨r1, rfl, ?_⟩
    refine e_next (pc' := 69) (ls' := [_, _, _, _, _]) rfl rfl ?_
    refine e_iinc (pc' := 72) (ls' := [_, _, _, _, _]) (v := (nI 1)) rfl rfl kc_1 rfl rfl ?_
    refine e_next (pc' := 41) rfl rfl ?_
    exact h
theorem w261 {d : Nat} {x1 : Int32} {g : qG} {I : qI} {J : qJ} {Q : qQ}  (h : qev (d + 1) 261 (7, [.ref 105, .int x1, .int (-1), .int (nI 0), .int (nI 0), qpad], [], g, I, J) Q) : qC (d + 1) 261 [.ref 105, .int x1] g I J Q := by
  show qev (d + 1) 261 (0, [.ref 105, .int x1, qpad, qpad, qpad, qpad], [], g, I, J) Q
  refine e_iconst (pc' := 1) rfl rfl kc_m1 ?_
  refine e_next (pc' := 2) (ls' := [_, _, _, _, _, _]) rfl rfl ?_
  refine e_iconst (pc' := 3) rfl rfl kc_0 ?_
  refine e_next (pc' := 4) (ls' := [_, _, _, _, _, _]) rfl rfl ?_
  refine e_iconst (pc' := 5) rfl rfl kc_0 ?_
  refine e_next (pc' := 7) (ls' := [_, _, _, _, _, _]) rfl rfl ?_
  exact h
theorem w261_7 {d : Nat} {i1 : Int32} {i2 : Int32} {i3 : Int32} {i4 : Int32} {w5 : Value} {g : qG} {I : qI} {J : qJ} {Q : qQ} (hs : qSh g)  (h : (((nI 8) ≤ i4 → Q (some (.int i2)) g I J) ∧ (¬ (nI 8) ≤ i4 → qC d 215 [.ref 105, .int i4] g I J (fun v _ _ _ => ∃ r1, v = some (.int r1) ∧ ((r1 = 0 → qev (d + 1) 261 (7, [.ref 105, .int i1, .int i2, .int i3, .int (i4 + (nI 1)), w5], [], g, I, J) Q) ∧ (¬ r1 = 0 → qC d 225 [.ref 105, .int i4, .int (nI 0)] g I J (fun v _ I1 _ => v = none ∧ ((i1 = 0 → qC d 185 [.ref 105, .int (nI 0)] g I1 J (fun v _ _ _ => ∃ r2, v = some (.int r2) ∧ ((i2 = (-1) → qev (d + 1) 261 (7, [.ref 105, .int i1, .int i4, .int r2, .int (i4 + (nI 1)), .int r2], [], g, I1, J) Q) ∧ (¬ i2 = (-1) → ((i3 < r2 → qev (d + 1) 261 (7, [.ref 105, .int i1, .int i4, .int r2, .int (i4 + (nI 1)), .int r2], [], g, I1, J) Q) ∧ (¬ i3 < r2 → qev (d + 1) 261 (7, [.ref 105, .int i1, .int i2, .int i3, .int (i4 + (nI 1)), .int r2], [], g, I1, J) Q)))))) ∧ (¬ i1 = 0 → qC d 180 [.ref 105, .int (nI 0)] g I1 J (fun v _ _ _ => ∃ r3, v = some (.int r3) ∧ ((i2 = (-1) → qev (d + 1) 261 (7, [.ref 105, .int i1, .int i4, .int r3, .int (i4 + (nI 1)), .int r3], [], g, I1, J) Q) ∧ (¬ i2 = (-1) → ((i3 < r3 → qev (d + 1) 261 (7, [.ref 105, .int i1, .int i4, .int r3, .int (i4 + (nI 1)), .int r3], [], g, I1, J) Q) ∧ (¬ i3 < r3 → qev (d + 1) 261 (7, [.ref 105, .int i1, .int i2, .int i3, .int (i4 + (nI 1)), .int r3], [], g, I1, J) Q)))))))))))))) : qev (d + 1) 261 (7, [.ref 105, .int i1, .int i2, .int i3, .int i4, w5], [], g, I, J) Q := by
  refine e_next (pc' := 9) rfl rfl ?_
  refine e_bipush (pc' := 11) rfl rfl kb_8 ?_
  refine e_icmp ((nI 8) ≤ i4) (pc' := 14) rfl rfl e_d (fun hc => ?_) (fun hc => ?_)
  · replace h := h.1 hc
    refine e_next (pc' := 79) rfl rfl ?_
    exact e_iret rfl h
  · replace h := h.2 hc
    refine e_next (pc' := 15) rfl rfl ?_
    refine e_next (pc' := 17) rfl rfl ?_
    refine e_cpI (pc' := 20) rfl (e_sV (as := [_]) (fun _ => rfl) (Or.inl rfl) rfl (hs.o rfl) rfl rfl (Nat.le_of_ble_eq_true rfl) (Nat.le_of_ble_eq_true rfl) rfl) rfl rfl rfl ?_
    refine qev.mono h (fun v _ _ _ h => ?_)
    obtain ⟨r1, rfl, h⟩ := h
    refine ⟨r1, rfl, ?_⟩
    refine e_if (¬ r1 = 0) (pc' := 23) rfl rfl e_d (fun hc => ?_) (fun hc => ?_)
    · replace h := h.2 hc
      refine e_next (pc' := 27) rfl rfl ?_
      refine e_next (pc' := 29) rfl rfl ?_
      refine e_iconst (pc' := 30) rfl rfl kc_0 ?_
      refine e_ciV (pc' := 33) rfl (e_sV (as := [_, _]) (fun _ => rfl) (Or.inl rfl) rfl (hs.o rfl) rfl rfl (Nat.le_of_ble_eq_true rfl) (Nat.le_of_ble_eq_true rfl) rfl) rfl rfl ?_
      refine qev.mono h (fun v _ I1 _ h => ?_)
      obtain ⟨rfl, h⟩ := h
      refine ⟨rfl, ?_⟩
      refine e_next (pc' := 34) rfl rfl ?_
      refine e_if (i1 = 0) (pc' := 37) rfl rfl e_d (fun hc => ?_) (fun hc => ?_)
      · replace h := h.1 hc
        refine e_next (pc' := 46) rfl rfl ?_
        refine e_iconst (pc' := 47) rfl rfl kc_0 ?_
        refine e_cpI (pc' := 50) rfl (e_sV (as := [_]) (fun _ => rfl) (Or.inl rfl) rfl (hs.o rfl) rfl rfl (Nat.le_of_ble_eq_true rfl) (Nat.le_of_ble_eq_true rfl) rfl) rfl rfl rfl ?_
        refine qev.mono h (fun v _ _ _ h => ?_)
        obtain ⟨r2, rfl, h⟩ := h
        refine ⟨r2, rfl, ?_⟩
        refine e_next (pc' := 52) (ls' := [_, _, _, _, _, _]) rfl rfl ?_
        refine e_next (pc' := 53) rfl rfl ?_
        refine e_iconst (pc' := 54) rfl rfl kc_m1 ?_
        refine e_icmp (i2 = (-1)) (pc' := 57) rfl rfl e_d (fun hc => ?_) (fun hc => ?_)
        · replace h := h.1 hc
          refine e_next (pc' := 68) rfl rfl ?_
          refine e_next (pc' := 69) (ls' := [_, _, _, _, _, _]) rfl rfl ?_
          refine e_next (pc' := 71) rfl rfl ?_
          refine e_next (pc' := 72) (ls' := [_, _, _, _, _, _]) rfl rfl ?_
          refine e_iinc (pc' := 75) (ls' := [_, _, _, _, _, _]) (v := (nI 1)) rfl rfl kc_1 rfl rfl ?_
          refine e_next (pc' := 7) rfl rfl ?_
          exact h
        · replace h := h.2 hc
          refine e_next (pc' := 59) rfl rfl ?_
          refine e_next (pc' := 60) rfl rfl ?_
          refine e_icmp (i3 < r2) (pc' := 63) rfl rfl e_d (fun hc => ?_) (fun hc => ?_)
          · replace h := h.1 hc
            refine e_next (pc' := 68) rfl rfl ?_
            refine e_next (pc' := 69) (ls' := [_, _, _, _, _, _]) rfl rfl ?_
            refine e_next (pc' := 71) rfl rfl ?_
            refine e_next (pc' := 72) (ls' := [_, _, _, _, _, _]) rfl rfl ?_
            refine e_iinc (pc' := 75) (ls' := [_, _, _, _, _, _]) (v := (nI 1)) rfl rfl kc_1 rfl rfl ?_
            refine e_next (pc' := 7) rfl rfl ?_
            exact h
          · replace h := h.2 hc
            refine e_next (pc' := 72) rfl rfl ?_
            refine e_iinc (pc' := 75) (ls' := [_, _, _, _, _, _]) (v := (nI 1)) rfl rfl kc_1 rfl rfl ?_
            refine e_next (pc' := 7) rfl rfl ?_
            exact h
      · replace h := h.2 hc
        refine e_next (pc' := 38) rfl rfl ?_
        refine e_iconst (pc' := 39) rfl rfl kc_0 ?_
        refine e_cpI (pc' := 42) rfl (e_sV (as := [_]) (fun _ => rfl) (Or.inl rfl) rfl (hs.o rfl) rfl rfl (Nat.le_of_ble_eq_true rfl) (Nat.le_of_ble_eq_true rfl) rfl) rfl rfl rfl ?_
        refine qev.mono h (fun v _ _ _ h => ?_)
        obtain ⟨r3, rfl, h⟩ := h
        refine ⟨r3, rfl, ?_⟩
        refine e_next (pc' := 50) rfl rfl ?_
        refine e_next (pc' := 52) (ls' := [_, _, _, _, _, _]) rfl rfl ?_
        refine e_next (pc' := 53) rfl rfl ?_
        refine e_iconst (pc' := 54) rfl rfl kc_m1 ?_
        refine e_icmp (i2 = (-1)) (pc' := 57) rfl rfl e_d (fun hc => ?_) (fun hc => ?_)
        · replace h := h.1 hc
          refine e_next (pc' := 68) rfl rfl ?_
          refine e_next (pc' := 69) (ls' := [_, _, _, _, _, _]) rfl rfl ?_
          refine e_next (pc' := 71) rfl rfl ?_
          refine e_next (pc' := 72) (ls' := [_, _, _, _, _, _]) rfl rfl ?_
          refine e_iinc (pc' := 75) (ls' := [_, _, _, _, _, _]) (v := (nI 1)) rfl rfl kc_1 rfl rfl ?_
          refine e_next (pc' := 7) rfl rfl ?_
          exact h
        · replace h := h.2 hc
          refine e_next (pc' := 59) rfl rfl ?_
          refine e_next (pc' := 60) rfl rfl ?_
          refine e_icmp (i3 < r3) (pc' := 63) rfl rfl e_d (fun hc => ?_) (fun hc => ?_)
          · replace h := h.1 hc
            refine e_next (pc' := 68) rfl rfl ?_
            refine e_next (pc' := 69) (ls' := [_, _, _, _, _, _]) rfl rfl ?_
            refine e_next (pc' := 71) rfl rfl ?_
            refine e_next (pc' := 72) (ls' := [_, _, _, _, _, _]) rfl rfl ?_
            refine e_iinc (pc' := 75) (ls' := [_, _, _, _, _, _]) (v := (nI 1)) rfl rfl kc_1 rfl rfl ?_
            refine e_next (pc' := 7) rfl rfl ?_
            exact h
          · replace h := h.2 hc
            refine e_next (pc' := 72) rfl rfl ?_
            refine e_iinc (pc' := 75) (ls' := [_, _, _, _, _, _]) (v := (nI 1)) rfl rfl kc_1 rfl rfl ?_
            refine e_next (pc' := 7) rfl rfl ?_
            exact h
    · replace h := h.1 (Decidable.not_not.mp hc)
      refine e_next (pc' := 72) rfl rfl ?_
      refine e_iinc (pc' := 75) (ls' := [_, _, _, _, _, _]) (v := (nI 1)) rfl rfl kc_1 rfl rfl ?_
      refine e_next (pc' := 7) rfl rfl ?_
      exact h
theorem w262 {d : Nat} {x1 : Int32} {g : qG} {I : qI} {J : qJ} {Q : qQ}  (h : qev d 262 (4, [.ref 105, .int x1, .int (nI 0), .int (nI 0), qpad], [], g, I, J) Q) : qC d 262 [.ref 105, .int x1] g I J Q := by
  show qev d 262 (0, [.ref 105, .int x1, qpad, qpad, qpad], [], g, I, J) Q
  refine e_iconst (pc' := 1) rfl rfl kc_0 ?_
  refine e_next (pc' := 2) (ls' := [_, _, _, _, _]) rfl rfl ?_
  refine e_iconst (pc' := 3) rfl rfl kc_0 ?_
  refine e_next (pc' := 4) (ls' := [_, _, _, _, _]) rfl rfl ?_
  exact h
theorem w262_4 {d : Nat} {i1 : Int32} {i2 : Int32} {i3 : Int32} {w4 : Value} {g : qG} {I : qI} {J : qJ} {Q : qQ}  (h : (((nI 8) ≤ i3 → Q (some (.int i2)) g I J) ∧ (¬ (nI 8) ≤ i3 → qev d 262 (13, [.ref 105, .int i1, .int i2, .int i3, .int (nI 0)], [], g, I, J) Q))) : qev d 262 (4, [.ref 105, .int i1, .int i2, .int i3, w4], [], g, I, J) Q := by
  refine e_next (pc' := 5) rfl rfl ?_
  refine e_bipush (pc' := 7) rfl rfl kb_8 ?_
  refine e_icmp ((nI 8) ≤ i3) (pc' := 10) rfl rfl e_d (fun hc => ?_) (fun hc => ?_)
  · replace h := h.1 hc
    refine e_next (pc' := 69) rfl rfl ?_
    exact e_iret rfl h
  · replace h := h.2 hc
    refine e_iconst (pc' := 11) rfl rfl kc_0 ?_
    refine e_next (pc' := 13) (ls' := [_, _, _, _, _]) rfl rfl ?_
    exact h
theorem w262_13 {d : Nat} {i1 : Int32} {i2 : Int32} {i3 : Int32} {i4 : Int32} {g : qG} {I : qI} {J : qJ} {Q : qQ} (hs : qSh g)  (h : ∃ k1, ((nI 25) * i3) = nI k1 ∧ k1 < 381 ∧ (((I 111 k1) ≤ i4 → qev d 262 (4, [.ref 105, .int i1, .int i2, .int (i3 + (nI 1)), .int i4], [], g, I, J) Q) ∧ (¬ (I 111 k1) ≤ i4 → ((i1 = 0 → qev d 262 (13, [.ref 105, .int i1, .int (i2 + (nI 1)), .int i3, .int (i4 + (nI 1))], [], g, I, J) Q) ∧ (¬ i1 = 0 → ∃ k2, ((((nI 25) * i3) + (nI 1)) + i4) = nI k2 ∧ k2 < 381 ∧ (((I 111 k2) = 0 → qev d 262 (13, [.ref 105, .int i1, .int (i2 + (nI 0)), .int i3, .int (i4 + (nI 1))], [], g, I, J) Q) ∧ (¬ (I 111 k2) = 0 → qev d 262 (13, [.ref 105, .int i1, .int (i2 + (nI 1)), .int i3, .int (i4 + (nI 1))], [], g, I, J) Q))))))) : qev d 262 (13, [.ref 105, .int i1, .int i2, .int i3, .int i4], [], g, I, J) Q := by
  refine e_next (pc' := 15) rfl rfl ?_
  refine e_next (pc' := 16) rfl rfl ?_
  refine e_getR (pc' := 19) rfl rfl (hs.o rfl) (hs.a rfl) ?_
  refine e_bipush (pc' := 21) rfl rfl kb_25 ?_
  refine e_next (pc' := 22) rfl rfl ?_
  refine e_next (pc' := 23) rfl rfl ?_
  obtain ⟨k1, hi_k1, hj_k1, h⟩ := h
  refine e_iald k1 (pc' := 24) rfl rfl (hs.k rfl) hi_k1 hj_k1 (by decide) ?_
  refine e_icmp ((I 111 k1) ≤ i4) (pc' := 27) rfl rfl e_d (fun hc => ?_) (fun hc => ?_)
  · replace h := h.1 hc
    refine e_iinc (pc' := 65) (ls' := [_, _, _, _, _]) (v := (nI 1)) rfl rfl kc_1 rfl rfl ?_
    refine e_next (pc' := 4) rfl rfl ?_
    exact h
  · replace h := h.2 hc
    refine e_next (pc' := 28) rfl rfl ?_
    refine e_next (pc' := 29) rfl rfl ?_
    refine e_if (i1 = 0) (pc' := 32) rfl rfl e_d (fun hc => ?_) (fun hc => ?_)
    · replace h := h.1 hc
      refine e_iconst (pc' := 50) rfl rfl kc_1 ?_
      refine e_next (pc' := 54) rfl rfl ?_
      refine e_next (pc' := 55) rfl rfl ?_
      refine e_next (pc' := 56) (ls' := [_, _, _, _, _]) rfl rfl ?_
      refine e_iinc (pc' := 59) (ls' := [_, _, _, _, _]) (v := (nI 1)) rfl rfl kc_1 rfl rfl ?_
      refine e_next (pc' := 13) rfl rfl ?_
      exact h
    · replace h := h.2 hc
      refine e_next (pc' := 33) rfl rfl ?_
      refine e_getR (pc' := 36) rfl rfl (hs.o rfl) (hs.a rfl) ?_
      refine e_bipush (pc' := 38) rfl rfl kb_25 ?_
      refine e_next (pc' := 39) rfl rfl ?_
      refine e_next (pc' := 40) rfl rfl ?_
      refine e_iconst (pc' := 41) rfl rfl kc_1 ?_
      refine e_next (pc' := 42) rfl rfl ?_
      refine e_next (pc' := 44) rfl rfl ?_
      refine e_next (pc' := 45) rfl rfl ?_
      obtain ⟨k2, hi_k2, hj_k2, h⟩ := h
      refine e_iald k2 (pc' := 46) rfl rfl (hs.k rfl) hi_k2 hj_k2 (by decide) ?_
      refine e_if ((I 111 k2) = 0) (pc' := 49) rfl rfl e_d (fun hc => ?_) (fun hc => ?_)
      · replace h := h.1 hc
        refine e_iconst (pc' := 54) rfl rfl kc_0 ?_
        refine e_next (pc' := 55) rfl rfl ?_
        refine e_next (pc' := 56) (ls' := [_, _, _, _, _]) rfl rfl ?_
        refine e_iinc (pc' := 59) (ls' := [_, _, _, _, _]) (v := (nI 1)) rfl rfl kc_1 rfl rfl ?_
        refine e_next (pc' := 13) rfl rfl ?_
        exact h
      · replace h := h.2 hc
        refine e_iconst (pc' := 50) rfl rfl kc_1 ?_
        refine e_next (pc' := 54) rfl rfl ?_
        refine e_next (pc' := 55) rfl rfl ?_
        refine e_next (pc' := 56) (ls' := [_, _, _, _, _]) rfl rfl ?_
        refine e_iinc (pc' := 59) (ls' := [_, _, _, _, _]) (v := (nI 1)) rfl rfl kc_1 rfl rfl ?_
        refine e_next (pc' := 13) rfl rfl ?_
        exact h
theorem w263 {d : Nat}  {g : qG} {I : qI} {J : qJ} {Q : qQ}  (h : qev d 263 (4, [.ref 105, .int (nI 0), .int (nI 0), qpad], [], g, I, J) Q) : qC d 263 [.ref 105] g I J Q := by
  show qev d 263 (0, [.ref 105, qpad, qpad, qpad], [], g, I, J) Q
  refine e_iconst (pc' := 1) rfl rfl kc_0 ?_
  refine e_next (pc' := 2) (ls' := [_, _, _, _]) rfl rfl ?_
  refine e_iconst (pc' := 3) rfl rfl kc_0 ?_
  refine e_next (pc' := 4) (ls' := [_, _, _, _]) rfl rfl ?_
  exact h
theorem w263_4 {d : Nat} {i1 : Int32} {i2 : Int32} {w3 : Value} {g : qG} {I : qI} {J : qJ} {Q : qQ}  (h : (((nI 8) ≤ i2 → Q (some (.int i1)) g I J) ∧ (¬ (nI 8) ≤ i2 → qev d 263 (12, [.ref 105, .int i1, .int i2, .int (nI 0)], [], g, I, J) Q))) : qev d 263 (4, [.ref 105, .int i1, .int i2, w3], [], g, I, J) Q := by
  refine e_next (pc' := 5) rfl rfl ?_
  refine e_bipush (pc' := 7) rfl rfl kb_8 ?_
  refine e_icmp ((nI 8) ≤ i2) (pc' := 10) rfl rfl e_d (fun hc => ?_) (fun hc => ?_)
  · replace h := h.1 hc
    refine e_next (pc' := 73) rfl rfl ?_
    exact e_iret rfl h
  · replace h := h.2 hc
    refine e_iconst (pc' := 11) rfl rfl kc_0 ?_
    refine e_next (pc' := 12) (ls' := [_, _, _, _]) rfl rfl ?_
    exact h
theorem w263_12 {d : Nat} {i1 : Int32} {i2 : Int32} {i3 : Int32} {g : qG} {I : qI} {J : qJ} {Q : qQ} (hs : qSh g)  (h : ∃ k1, ((nI 25) * i2) = nI k1 ∧ k1 < 381 ∧ (((I 111 k1) ≤ i3 → qev d 263 (4, [.ref 105, .int i1, .int (i2 + (nI 1)), .int i3], [], g, I, J) Q) ∧ (¬ (I 111 k1) ≤ i3 → ∃ k2, ((((nI 25) * i2) + (nI 1)) + i3) = nI k2 ∧ k2 < 381 ∧ (((I 111 k2) ≤ i1 → qev d 263 (12, [.ref 105, .int i1, .int i2, .int (i3 + (nI 1))], [], g, I, J) Q) ∧ (¬ (I 111 k2) ≤ i1 → ∃ k3, ((((nI 25) * i2) + (nI 1)) + i3) = nI k3 ∧ k3 < 381 ∧ qev d 263 (12, [.ref 105, .int (I 111 k3), .int i2, .int (i3 + (nI 1))], [], g, I, J) Q))))) : qev d 263 (12, [.ref 105, .int i1, .int i2, .int i3], [], g, I, J) Q := by
  refine e_next (pc' := 13) rfl rfl ?_
  refine e_next (pc' := 14) rfl rfl ?_
  refine e_getR (pc' := 17) rfl rfl (hs.o rfl) (hs.a rfl) ?_
  refine e_bipush (pc' := 19) rfl rfl kb_25 ?_
  refine e_next (pc' := 20) rfl rfl ?_
  refine e_next (pc' := 21) rfl rfl ?_
  obtain ⟨k1, hi_k1, hj_k1, h⟩ := h
  refine e_iald k1 (pc' := 22) rfl rfl (hs.k rfl) hi_k1 hj_k1 (by decide) ?_
  refine e_icmp ((I 111 k1) ≤ i3) (pc' := 25) rfl rfl e_d (fun hc => ?_) (fun hc => ?_)
  · replace h := h.1 hc
    refine e_iinc (pc' := 69) (ls' := [_, _, _, _]) (v := (nI 1)) rfl rfl kc_1 rfl rfl ?_
    refine e_next (pc' := 4) rfl rfl ?_
    exact h
  · replace h := h.2 hc
    refine e_next (pc' := 26) rfl rfl ?_
    refine e_getR (pc' := 29) rfl rfl (hs.o rfl) (hs.a rfl) ?_
    refine e_bipush (pc' := 31) rfl rfl kb_25 ?_
    refine e_next (pc' := 32) rfl rfl ?_
    refine e_next (pc' := 33) rfl rfl ?_
    refine e_iconst (pc' := 34) rfl rfl kc_1 ?_
    refine e_next (pc' := 35) rfl rfl ?_
    refine e_next (pc' := 36) rfl rfl ?_
    refine e_next (pc' := 37) rfl rfl ?_
    obtain ⟨k2, hi_k2, hj_k2, h⟩ := h
    refine e_iald k2 (pc' := 38) rfl rfl (hs.k rfl) hi_k2 hj_k2 (by decide) ?_
    refine e_next (pc' := 39) rfl rfl ?_
    refine e_icmp ((I 111 k2) ≤ i1) (pc' := 42) rfl rfl e_d (fun hc => ?_) (fun hc => ?_)
    · replace h := h.1 hc
      refine e_next (pc' := 59) rfl rfl ?_
      refine e_next (pc' := 60) (ls' := [_, _, _, _]) rfl rfl ?_
      refine e_iinc (pc' := 63) (ls' := [_, _, _, _]) (v := (nI 1)) rfl rfl kc_1 rfl rfl ?_
      refine e_next (pc' := 12) rfl rfl ?_
      exact h
    · replace h := h.2 hc
      refine e_next (pc' := 43) rfl rfl ?_
      refine e_getR (pc' := 46) rfl rfl (hs.o rfl) (hs.a rfl) ?_
      refine e_bipush (pc' := 48) rfl rfl kb_25 ?_
      refine e_next (pc' := 49) rfl rfl ?_
      refine e_next (pc' := 50) rfl rfl ?_
      refine e_iconst (pc' := 51) rfl rfl kc_1 ?_
      refine e_next (pc' := 52) rfl rfl ?_
      refine e_next (pc' := 53) rfl rfl ?_
      refine e_next (pc' := 54) rfl rfl ?_
      obtain ⟨k3, hi_k3, hj_k3, h⟩ := h
      refine e_iald k3 (pc' := 55) rfl rfl (hs.k rfl) hi_k3 hj_k3 (by decide) ?_
      refine e_next (pc' := 59) rfl rfl ?_
      refine e_next (pc' := 60) (ls' := [_, _, _, _]) rfl rfl ?_
      refine e_iinc (pc' := 63) (ls' := [_, _, _, _]) (v := (nI 1)) rfl rfl kc_1 rfl rfl ?_
      refine e_next (pc' := 12) rfl rfl ?_
      exact h
theorem w264 {d : Nat} {x1 : Int32} {g : qG} {I : qI} {J : qJ} {Q : qQ}  (h : qev (d + 1) 264 (4, [.ref 105, .int x1, .int (nI 0), .int (nI 0)], [], g, I, J) Q) : qC (d + 1) 264 [.ref 105, .int x1] g I J Q := by
  show qev (d + 1) 264 (0, [.ref 105, .int x1, qpad, qpad], [], g, I, J) Q
  refine e_iconst (pc' := 1) rfl rfl kc_0 ?_
  refine e_next (pc' := 2) (ls' := [_, _, _, _]) rfl rfl ?_
  refine e_iconst (pc' := 3) rfl rfl kc_0 ?_
  refine e_next (pc' := 4) (ls' := [_, _, _, _]) rfl rfl ?_
  exact h
theorem w264_4 {d : Nat} {i1 : Int32} {i2 : Int32} {i3 : Int32} {g : qG} {I : qI} {J : qJ} {Q : qQ} (hs : qSh g)  (h : (((nI 8) ≤ i3 → Q (some (.int i2)) g I J) ∧ (¬ (nI 8) ≤ i3 → qC d 215 [.ref 105, .int i3] g I J (fun v _ _ _ => ∃ r1, v = some (.int r1) ∧ ((r1 = 0 → qev (d + 1) 264 (4, [.ref 105, .int i1, .int (i2 ||| (nI 0)), .int (i3 + (nI 1))], [], g, I, J) Q) ∧ (¬ r1 = 0 → ((i1 = 0 → qev (d + 1) 264 (4, [.ref 105, .int i1, .int (i2 ||| (qshl (nI 1) i3)), .int (i3 + (nI 1))], [], g, I, J) Q) ∧ (¬ i1 = 0 → ∃ k1, (((nI 25) * i3) + (nI 1)) = nI k1 ∧ k1 < 381 ∧ (((I 111 k1) = 0 → qev (d + 1) 264 (4, [.ref 105, .int i1, .int (i2 ||| (qshl (nI 1) i3)), .int (i3 + (nI 1))], [], g, I, J) Q) ∧ (¬ (I 111 k1) = 0 → qev (d + 1) 264 (4, [.ref 105, .int i1, .int (i2 ||| (nI 0)), .int (i3 + (nI 1))], [], g, I, J) Q)))))))))) : qev (d + 1) 264 (4, [.ref 105, .int i1, .int i2, .int i3], [], g, I, J) Q := by
  refine e_next (pc' := 5) rfl rfl ?_
  refine e_bipush (pc' := 7) rfl rfl kb_8 ?_
  refine e_icmp ((nI 8) ≤ i3) (pc' := 10) rfl rfl e_d (fun hc => ?_) (fun hc => ?_)
  · replace h := h.1 hc
    refine e_next (pc' := 53) rfl rfl ?_
    exact e_iret rfl h
  · replace h := h.2 hc
    refine e_next (pc' := 11) rfl rfl ?_
    refine e_next (pc' := 12) rfl rfl ?_
    refine e_next (pc' := 13) rfl rfl ?_
    refine e_cpI (pc' := 16) rfl (e_sV (as := [_]) (fun _ => rfl) (Or.inl rfl) rfl (hs.o rfl) rfl rfl (Nat.le_of_ble_eq_true rfl) (Nat.le_of_ble_eq_true rfl) rfl) rfl rfl rfl ?_
    refine qev.mono h (fun v _ _ _ h => ?_)
    obtain ⟨r1, rfl, h⟩ := h
    refine ⟨r1, rfl, ?_⟩
    refine e_if (r1 = 0) (pc' := 19) rfl rfl e_d (fun hc => ?_) (fun hc => ?_)
    · replace h := h.1 hc
      refine e_iconst (pc' := 44) rfl rfl kc_0 ?_
      refine e_next (pc' := 45) rfl rfl ?_
      refine e_next (pc' := 46) (ls' := [_, _, _, _]) rfl rfl ?_
      refine e_iinc (pc' := 49) (ls' := [_, _, _, _]) (v := (nI 1)) rfl rfl kc_1 rfl rfl ?_
      refine e_next (pc' := 4) rfl rfl ?_
      exact h
    · replace h := h.2 hc
      refine e_next (pc' := 20) rfl rfl ?_
      refine e_if (i1 = 0) (pc' := 23) rfl rfl e_d (fun hc => ?_) (fun hc => ?_)
      · replace h := h.1 hc
        refine e_iconst (pc' := 38) rfl rfl kc_1 ?_
        refine e_next (pc' := 39) rfl rfl ?_
        refine e_next (pc' := 40) rfl rfl ?_
        refine e_next (pc' := 44) rfl rfl ?_
        refine e_next (pc' := 45) rfl rfl ?_
        refine e_next (pc' := 46) (ls' := [_, _, _, _]) rfl rfl ?_
        refine e_iinc (pc' := 49) (ls' := [_, _, _, _]) (v := (nI 1)) rfl rfl kc_1 rfl rfl ?_
        refine e_next (pc' := 4) rfl rfl ?_
        exact h
      · replace h := h.2 hc
        refine e_next (pc' := 24) rfl rfl ?_
        refine e_getR (pc' := 27) rfl rfl (hs.o rfl) (hs.a rfl) ?_
        refine e_bipush (pc' := 29) rfl rfl kb_25 ?_
        refine e_next (pc' := 30) rfl rfl ?_
        refine e_next (pc' := 31) rfl rfl ?_
        refine e_iconst (pc' := 32) rfl rfl kc_1 ?_
        refine e_next (pc' := 33) rfl rfl ?_
        obtain ⟨k1, hi_k1, hj_k1, h⟩ := h
        refine e_iald k1 (pc' := 34) rfl rfl (hs.k rfl) hi_k1 hj_k1 (by decide) ?_
        refine e_if (¬ (I 111 k1) = 0) (pc' := 37) rfl rfl e_d (fun hc => ?_) (fun hc => ?_)
        · replace h := h.2 hc
          refine e_iconst (pc' := 44) rfl rfl kc_0 ?_
          refine e_next (pc' := 45) rfl rfl ?_
          refine e_next (pc' := 46) (ls' := [_, _, _, _]) rfl rfl ?_
          refine e_iinc (pc' := 49) (ls' := [_, _, _, _]) (v := (nI 1)) rfl rfl kc_1 rfl rfl ?_
          refine e_next (pc' := 4) rfl rfl ?_
          exact h
        · replace h := h.1 (Decidable.not_not.mp hc)
          refine e_iconst (pc' := 38) rfl rfl kc_1 ?_
          refine e_next (pc' := 39) rfl rfl ?_
          refine e_next (pc' := 40) rfl rfl ?_
          refine e_next (pc' := 44) rfl rfl ?_
          refine e_next (pc' := 45) rfl rfl ?_
          refine e_next (pc' := 46) (ls' := [_, _, _, _]) rfl rfl ?_
          refine e_iinc (pc' := 49) (ls' := [_, _, _, _]) (v := (nI 1)) rfl rfl kc_1 rfl rfl ?_
          refine e_next (pc' := 4) rfl rfl ?_
          exact h
theorem w265 {d : Nat} {x1 : Int32} {g : qG} {I : qI} {J : qJ} {Q : qQ} (hs : qSh g)  (h : ((((qw I 105 0 (nI 0)) 105 7) = 0 → Q (some (.int (-1000000))) g (qw I 105 0 (nI 0)) J) ∧ (¬ ((qw I 105 0 (nI 0)) 105 7) = 0 → ((x1 = nI 0 → qC d 264 [.ref 105, .int (nI 0)] g (qw I 105 0 (nI 0)) J (fun v _ _ _ => ∃ r1, v = some (.int r1) ∧ Q (some (.int r1)) g (qw I 105 0 (nI 0)) J)) ∧ (x1 = nI 1 → qC d 261 [.ref 105, .int (nI 1)] g (qw I 105 0 (nI 0)) J (fun v _ I1 _ => ∃ r2, v = some (.int r2) ∧ Q (some (.int r2)) g I1 J)) ∧ (x1 = nI 2 → qC d 261 [.ref 105, .int (nI 0)] g (qw I 105 0 (nI 0)) J (fun v _ I2 _ => ∃ r3, v = some (.int r3) ∧ Q (some (.int r3)) g I2 J)) ∧ (x1 = nI 3 → qC d 262 [.ref 105, .int (nI 0)] g (qw I 105 0 (nI 0)) J (fun v _ _ _ => ∃ r4, v = some (.int r4) ∧ Q (some (.int r4)) g (qw I 105 0 (nI 0)) J)) ∧ (x1 = nI 4 → qC d 262 [.ref 105, .int (nI 1)] g (qw I 105 0 (nI 0)) J (fun v _ _ _ => ∃ r5, v = some (.int r5) ∧ Q (some (.int r5)) g (qw I 105 0 (nI 0)) J)) ∧ (x1 = nI 5 → qC d 263 [.ref 105] g (qw I 105 0 (nI 0)) J (fun v _ _ _ => ∃ r6, v = some (.int r6) ∧ Q (some (.int r6)) g (qw I 105 0 (nI 0)) J)) ∧ (x1 = nI 6 → qC d 264 [.ref 105, .int (nI 1)] g (qw I 105 0 (nI 0)) J (fun v _ _ _ => ∃ r7, v = some (.int r7) ∧ Q (some (.int r7)) g (qw I 105 0 (nI 0)) J)) ∧ (¬ x1 = nI 0 ∧ ¬ x1 = nI 1 ∧ ¬ x1 = nI 2 ∧ ¬ x1 = nI 3 ∧ ¬ x1 = nI 4 ∧ ¬ x1 = nI 5 ∧ ¬ x1 = nI 6 → Q (some (.int (-1000000))) g (qw I 105 0 (nI 0)) J))))) : qC (d + 1) 265 [.ref 105, .int x1] g I J Q := by
  show qev (d + 1) 265 (0, [.ref 105, .int x1], [], g, I, J) Q
  refine e_next (pc' := 1) rfl rfl ?_
  refine e_iconst (pc' := 2) rfl rfl kc_0 ?_
  refine e_putI (pc' := 5) rfl rfl (hs.o rfl) ?_
  refine e_next (pc' := 6) rfl rfl ?_
  refine e_getI (pc' := 9) rfl (Or.inl rfl) rfl (hs.o rfl) ?_
  refine e_if (¬ ((qw I 105 0 (nI 0)) 105 7) = 0) (pc' := 12) rfl rfl e_d (fun hc => ?_) (fun hc => ?_)
  · replace h := h.2 hc
    refine e_next (pc' := 17) rfl rfl ?_
    by_cases hc0 : x1 = nI 0
    · refine e_tswI (t := 60) 0 rfl hc0 (by decide) (by decide) ?_
      replace h := h.1 hc0
      refine e_next (pc' := 61) rfl rfl ?_
      refine e_iconst (pc' := 62) rfl rfl kc_0 ?_
      refine e_cpI (pc' := 65) rfl (e_sV (as := [_]) (fun _ => rfl) (Or.inl rfl) rfl (hs.o rfl) rfl rfl (Nat.le_of_ble_eq_true rfl) (Nat.le_of_ble_eq_true rfl) rfl) rfl rfl rfl ?_
      refine qev.mono h (fun v _ _ _ h => ?_)
      obtain ⟨r1, rfl, h⟩ := h
      refine ⟨r1, rfl, ?_⟩
      exact e_iret rfl h
    replace h := h.2
    by_cases hc1 : x1 = nI 1
    · refine e_tswI (t := 66) 1 rfl hc1 (by decide) (by decide) ?_
      replace h := h.1 hc1
      refine e_next (pc' := 67) rfl rfl ?_
      refine e_iconst (pc' := 68) rfl rfl kc_1 ?_
      refine e_ciI (pc' := 71) rfl (e_sV (as := [_]) (fun _ => rfl) (Or.inl rfl) rfl (hs.o rfl) rfl rfl (Nat.le_of_ble_eq_true rfl) (Nat.le_of_ble_eq_true rfl) rfl) rfl rfl ?_
      refine qev.mono h (fun v _ I1 _ h => ?_)
      obtain ⟨r2, rfl, h⟩ := h
      refine ⟨r2, rfl, ?_⟩
      exact e_iret rfl h
    replace h := h.2
    by_cases hc2 : x1 = nI 2
    · refine e_tswI (t := 72) 2 rfl hc2 (by decide) (by decide) ?_
      replace h := h.1 hc2
      refine e_next (pc' := 73) rfl rfl ?_
      refine e_iconst (pc' := 74) rfl rfl kc_0 ?_
      refine e_ciI (pc' := 77) rfl (e_sV (as := [_]) (fun _ => rfl) (Or.inl rfl) rfl (hs.o rfl) rfl rfl (Nat.le_of_ble_eq_true rfl) (Nat.le_of_ble_eq_true rfl) rfl) rfl rfl ?_
      refine qev.mono h (fun v _ I2 _ h => ?_)
      obtain ⟨r3, rfl, h⟩ := h
      refine ⟨r3, rfl, ?_⟩
      exact e_iret rfl h
    replace h := h.2
    by_cases hc3 : x1 = nI 3
    · refine e_tswI (t := 78) 3 rfl hc3 (by decide) (by decide) ?_
      replace h := h.1 hc3
      refine e_next (pc' := 79) rfl rfl ?_
      refine e_iconst (pc' := 80) rfl rfl kc_0 ?_
      refine e_cpI (pc' := 83) rfl (e_sV (as := [_]) (fun _ => rfl) (Or.inl rfl) rfl (hs.o rfl) rfl rfl (Nat.le_of_ble_eq_true rfl) (Nat.le_of_ble_eq_true rfl) rfl) rfl rfl rfl ?_
      refine qev.mono h (fun v _ _ _ h => ?_)
      obtain ⟨r4, rfl, h⟩ := h
      refine ⟨r4, rfl, ?_⟩
      exact e_iret rfl h
    replace h := h.2
    by_cases hc4 : x1 = nI 4
    · refine e_tswI (t := 84) 4 rfl hc4 (by decide) (by decide) ?_
      replace h := h.1 hc4
      refine e_next (pc' := 85) rfl rfl ?_
      refine e_iconst (pc' := 86) rfl rfl kc_1 ?_
      refine e_cpI (pc' := 89) rfl (e_sV (as := [_]) (fun _ => rfl) (Or.inl rfl) rfl (hs.o rfl) rfl rfl (Nat.le_of_ble_eq_true rfl) (Nat.le_of_ble_eq_true rfl) rfl) rfl rfl rfl ?_
      refine qev.mono h (fun v _ _ _ h => ?_)
      obtain ⟨r5, rfl, h⟩ := h
      refine ⟨r5, rfl, ?_⟩
      exact e_iret rfl h
    replace h := h.2
    by_cases hc5 : x1 = nI 5
    · refine e_tswI (t := 90) 5 rfl hc5 (by decide) (by decide) ?_
      replace h := h.1 hc5
      refine e_next (pc' := 91) rfl rfl ?_
      refine e_cpI (pc' := 94) rfl (e_sV (as := []) (fun _ => rfl) (Or.inl rfl) rfl (hs.o rfl) rfl rfl (Nat.le_of_ble_eq_true rfl) (Nat.le_of_ble_eq_true rfl) rfl) rfl rfl rfl ?_
      refine qev.mono h (fun v _ _ _ h => ?_)
      obtain ⟨r6, rfl, h⟩ := h
      refine ⟨r6, rfl, ?_⟩
      exact e_iret rfl h
    replace h := h.2
    by_cases hc6 : x1 = nI 6
    · refine e_tswI (t := 95) 6 rfl hc6 (by decide) (by decide) ?_
      replace h := h.1 hc6
      refine e_next (pc' := 96) rfl rfl ?_
      refine e_iconst (pc' := 97) rfl rfl kc_1 ?_
      refine e_cpI (pc' := 100) rfl (e_sV (as := [_]) (fun _ => rfl) (Or.inl rfl) rfl (hs.o rfl) rfl rfl (Nat.le_of_ble_eq_true rfl) (Nat.le_of_ble_eq_true rfl) rfl) rfl rfl rfl ?_
      refine qev.mono h (fun v _ _ _ h => ?_)
      obtain ⟨r7, rfl, h⟩ := h
      refine ⟨r7, rfl, ?_⟩
      exact e_iret rfl h
    replace h := h.2
    replace h := h ⟨hc0, hc1, hc2, hc3, hc4, hc5, hc6⟩
    refine e_tswO (t := 101) (lo := 0) (hi := 6) rfl (fun k h1 h2 => ?_) (by decide) (by decide) ?_
    · rcases (show k = 0 ∨ k = 1 ∨ k = 2 ∨ k = 3 ∨ k = 4 ∨ k = 5 ∨ k = 6 by omega) with rfl | rfl | rfl | rfl | rfl | rfl | rfl
      · exact hc0
      · exact hc1
      · exact hc2
      · exact hc3
      · exact hc4
      · exact hc5
      · exact hc6
    refine e_ldcw (pc' := 104) rfl rfl kn_4293967296 ?_
    exact e_iret rfl h
  · replace h := h.1 (Decidable.not_not.mp hc)
    refine e_ldcw (pc' := 15) rfl rfl kn_4293967296 ?_
    exact e_iret rfl h
theorem w266 {d : Nat} {x1 : Int32} {g : qG} {I : qI} {J : qJ} {Q : qQ} (hs : qSh g)  (h : ((x1 = nI 0 → ((((qw I 105 0 (nI 0)) 105 7) = 0 → Q (some (.int (nI 0))) g (qw I 105 0 (nI 0)) J) ∧ (¬ ((qw I 105 0 (nI 0)) 105 7) = 0 → qC d 237 [.ref 105] g (qw I 105 0 (nI 0)) J (fun v _ _ _ => ∃ r1, v = some (.int r1) ∧ Q (some (.int r1)) g (qw I 105 0 (nI 0)) J)))) ∧ (x1 = nI 1 → Q (some (.int ((qw I 105 0 (nI 0)) 105 13))) g (qw I 105 0 (nI 0)) J) ∧ (x1 = nI 2 → Q (some (.int ((qw I 105 0 (nI 0)) 105 2))) g (qw I 105 0 (nI 0)) J) ∧ (x1 = nI 3 → Q (some (.int ((qw I 105 0 (nI 0)) 111 200))) g (qw I 105 0 (nI 0)) J) ∧ (x1 = nI 4 → Q (some (.int ((qw I 105 0 (nI 0)) 105 22))) g (qw I 105 0 (nI 0)) J) ∧ (¬ x1 = nI 0 ∧ ¬ x1 = nI 1 ∧ ¬ x1 = nI 2 ∧ ¬ x1 = nI 3 ∧ ¬ x1 = nI 4 → Q (some (.int (-1000000))) g (qw I 105 0 (nI 0)) J))) : qC (d + 1) 266 [.ref 105, .int x1] g I J Q := by
  show qev (d + 1) 266 (0, [.ref 105, .int x1], [], g, I, J) Q
  refine e_next (pc' := 1) rfl rfl ?_
  refine e_iconst (pc' := 2) rfl rfl kc_0 ?_
  refine e_putI (pc' := 5) rfl rfl (hs.o rfl) ?_
  refine e_next (pc' := 6) rfl rfl ?_
  by_cases hc0 : x1 = nI 0
  · refine e_tswI (t := 40) 0 rfl hc0 (by decide) (by decide) ?_
    replace h := h.1 hc0
    refine e_next (pc' := 41) rfl rfl ?_
    refine e_getI (pc' := 44) rfl (Or.inl rfl) rfl (hs.o rfl) ?_
    refine e_if (¬ ((qw I 105 0 (nI 0)) 105 7) = 0) (pc' := 47) rfl rfl e_d (fun hc => ?_) (fun hc => ?_)
    · replace h := h.2 hc
      refine e_next (pc' := 52) rfl rfl ?_
      refine e_cpI (pc' := 55) rfl (e_sV (as := []) (fun _ => rfl) (Or.inl rfl) rfl (hs.o rfl) rfl rfl (Nat.le_of_ble_eq_true rfl) (Nat.le_of_ble_eq_true rfl) rfl) rfl rfl rfl ?_
      refine qev.mono h (fun v _ _ _ h => ?_)
      obtain ⟨r1, rfl, h⟩ := h
      refine ⟨r1, rfl, ?_⟩
      exact e_iret rfl h
    · replace h := h.1 (Decidable.not_not.mp hc)
      refine e_iconst (pc' := 48) rfl rfl kc_0 ?_
      refine e_next (pc' := 55) rfl rfl ?_
      exact e_iret rfl h
  replace h := h.2
  by_cases hc1 : x1 = nI 1
  · refine e_tswI (t := 56) 1 rfl hc1 (by decide) (by decide) ?_
    replace h := h.1 hc1
    refine e_next (pc' := 57) rfl rfl ?_
    refine e_getI (pc' := 60) rfl (Or.inl rfl) rfl (hs.o rfl) ?_
    exact e_iret rfl h
  replace h := h.2
  by_cases hc2 : x1 = nI 2
  · refine e_tswI (t := 61) 2 rfl hc2 (by decide) (by decide) ?_
    replace h := h.1 hc2
    refine e_next (pc' := 62) rfl rfl ?_
    refine e_getI (pc' := 65) rfl (Or.inl rfl) rfl (hs.o rfl) ?_
    exact e_iret rfl h
  replace h := h.2
  by_cases hc3 : x1 = nI 3
  · refine e_tswI (t := 66) 3 rfl hc3 (by decide) (by decide) ?_
    replace h := h.1 hc3
    refine e_next (pc' := 67) rfl rfl ?_
    refine e_getR (pc' := 70) rfl rfl (hs.o rfl) (hs.a rfl) ?_
    refine e_sipush (pc' := 73) rfl rfl ks_200 ?_
    refine e_iald 200 (pc' := 74) rfl rfl (hs.k rfl) rfl (by decide) (by decide) ?_
    exact e_iret rfl h
  replace h := h.2
  by_cases hc4 : x1 = nI 4
  · refine e_tswI (t := 75) 4 rfl hc4 (by decide) (by decide) ?_
    replace h := h.1 hc4
    refine e_next (pc' := 76) rfl rfl ?_
    refine e_getI (pc' := 79) rfl (Or.inl rfl) rfl (hs.o rfl) ?_
    exact e_iret rfl h
  replace h := h.2
  replace h := h ⟨hc0, hc1, hc2, hc3, hc4⟩
  refine e_tswO (t := 80) (lo := 0) (hi := 4) rfl (fun k h1 h2 => ?_) (by decide) (by decide) ?_
  · rcases (show k = 0 ∨ k = 1 ∨ k = 2 ∨ k = 3 ∨ k = 4 by omega) with rfl | rfl | rfl | rfl | rfl
    · exact hc0
    · exact hc1
    · exact hc2
    · exact hc3
    · exact hc4
  refine e_ldcw (pc' := 83) rfl rfl kn_4293967296 ?_
  exact e_iret rfl h
