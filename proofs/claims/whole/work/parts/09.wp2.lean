theorem w160 {d : Nat} {x1 : Int32} {g : qG} {I : qI} {J : qJ} {Q : qQ} (hs : qSh g)  (h : (((I 105 4) = (-1) → qC d 154 [.ref 105] g I J (fun v _ I1 _ => ∃ r1, v = some (.int r1) ∧ ((r1 = x1 → Q none g (qw I1 105 3 ((I1 105 3) + (nI 1))) J) ∧ (¬ r1 = x1 → qC d 155 [.ref 105] g I1 J (fun v _ I2 _ => v = none ∧ Q none g I2 J))))) ∧ (¬ (I 105 4) = (-1) → Q none g I J))) : qC (d + 1) 160 [.ref 105, .int x1] g I J Q := by
  show qev (d + 1) 160 (0, [.ref 105, .int x1], [], g, I, J) Q
  refine e_next (pc' := 1) rfl rfl ?_
  refine e_getI (pc' := 4) rfl (Or.inl rfl) rfl (hs.o rfl) ?_
  refine e_iconst (pc' := 5) rfl rfl kc_m1 ?_
  refine e_icmp ((I 105 4) = (-1)) (pc' := 8) rfl rfl e_d (fun hc => ?_) (fun hc => ?_)
  · replace h := h.1 hc
    refine e_next (pc' := 10) rfl rfl ?_
    refine e_ciI (pc' := 13) rfl (e_sV (as := []) (fun _ => rfl) (Or.inl rfl) rfl (hs.o rfl) rfl rfl (Nat.le_of_ble_eq_true rfl) (Nat.le_of_ble_eq_true rfl) rfl) rfl rfl ?_
    refine qev.mono h (fun v _ I1 _ h => ?_)
    obtain ⟨r1, rfl, h⟩ := h
    refine ⟨r1, rfl, ?_⟩
    refine e_next (pc' := 14) rfl rfl ?_
    refine e_icmp (¬ r1 = x1) (pc' := 17) rfl rfl e_d (fun hc => ?_) (fun hc => ?_)
    · replace h := h.2 hc
      refine e_next (pc' := 31) rfl rfl ?_
      refine e_ciV (pc' := 34) rfl (e_sV (as := []) (fun _ => rfl) (Or.inl rfl) rfl (hs.o rfl) rfl rfl (Nat.le_of_ble_eq_true rfl) (Nat.le_of_ble_eq_true rfl) rfl) rfl rfl ?_
      refine qev.mono h (fun v _ I2 _ h => ?_)
      obtain ⟨rfl, h⟩ := h
      refine ⟨rfl, ?_⟩
      exact qev_ret rfl rfl h
    · replace h := h.1 (Decidable.not_not.mp hc)
      refine e_next (pc' := 18) rfl rfl ?_
      refine e_next (pc' := 19) rfl rfl ?_
      refine e_getI (pc' := 22) rfl (Or.inl rfl) rfl (hs.o rfl) ?_
      refine e_iconst (pc' := 23) rfl rfl kc_1 ?_
      refine e_next (pc' := 24) rfl rfl ?_
      refine e_putI (pc' := 27) rfl rfl (hs.o rfl) ?_
      refine e_next (pc' := 34) rfl rfl ?_
      exact qev_ret rfl rfl h
  · replace h := h.2 hc
    exact qev_ret rfl rfl h
theorem w161 {d : Nat}  {g : qG} {I : qI} {J : qJ} {Q : qQ} (hs : qSh g)  (h : qC d 160 [.ref 105, .int (nI 115)] g (qw (qw I 105 5 (nI 7)) 105 6 (nI 12)) J (fun v _ I1 _ => v = none ∧ (((I1 105 4) = (-1) → qC d 154 [.ref 105] g I1 J (fun v _ I2 _ => ∃ r1, v = some (.int r1) ∧ qC d 157 [.ref 1, .int r1] g I2 J (fun v _ _ _ => ∃ r2, v = some (.int r2) ∧ qev (d + 1) 161 (42, [.ref 105, .int (nI 0), .int r2], [], g, I2, J) Q))) ∧ (¬ (I1 105 4) = (-1) → qev (d + 1) 161 (42, [.ref 105, .int (nI 0), .int (-1)], [], g, I1, J) Q)))) : qC (d + 1) 161 [.ref 105] g I J Q := by
  show qev (d + 1) 161 (0, [.ref 105, qpad, qpad], [], g, I, J) Q
  refine e_next (pc' := 1) rfl rfl ?_
  refine e_bipush (pc' := 3) rfl rfl kb_7 ?_
  refine e_putI (pc' := 6) rfl rfl (hs.o rfl) ?_
  refine e_next (pc' := 7) rfl rfl ?_
  refine e_bipush (pc' := 9) rfl rfl kb_12 ?_
  refine e_putI (pc' := 12) rfl rfl (hs.o rfl) ?_
  refine e_next (pc' := 13) rfl rfl ?_
  refine e_bipush (pc' := 15) rfl rfl kb_115 ?_
  refine e_ciV (pc' := 18) rfl (e_sV (as := [_]) (fun _ => rfl) (Or.inl rfl) rfl (hs.o rfl) rfl rfl (Nat.le_of_ble_eq_true rfl) (Nat.le_of_ble_eq_true rfl) rfl) rfl rfl ?_
  refine qev.mono h (fun v _ I1 _ h => ?_)
  obtain ⟨rfl, h⟩ := h
  refine ⟨rfl, ?_⟩
  refine e_iconst (pc' := 19) rfl rfl kc_0 ?_
  refine e_next (pc' := 20) (ls' := [_, _, _]) rfl rfl ?_
  refine e_next (pc' := 21) rfl rfl ?_
  refine e_getI (pc' := 24) rfl (Or.inl rfl) rfl (hs.o rfl) ?_
  refine e_iconst (pc' := 25) rfl rfl kc_m1 ?_
  refine e_icmp (¬ (I1 105 4) = (-1)) (pc' := 28) rfl rfl e_d (fun hc => ?_) (fun hc => ?_)
  · replace h := h.2 hc
    refine e_iconst (pc' := 41) rfl rfl kc_m1 ?_
    refine e_next (pc' := 42) (ls' := [_, _, _]) rfl rfl ?_
    exact h
  · replace h := h.1 (Decidable.not_not.mp hc)
    refine e_next (pc' := 30) rfl rfl ?_
    refine e_next (pc' := 31) rfl rfl ?_
    refine e_ciI (pc' := 34) rfl (e_sV (as := []) (fun _ => rfl) (Or.inl rfl) rfl (hs.o rfl) rfl rfl (Nat.le_of_ble_eq_true rfl) (Nat.le_of_ble_eq_true rfl) rfl) rfl rfl ?_
    refine qev.mono h (fun v _ I2 _ h => ?_)
    obtain ⟨r1, rfl, h⟩ := h
    refine ⟨r1, rfl, ?_⟩
    refine e_cpI (pc' := 37) rfl (e_sS (as := [_, _]) (fun _ => rfl) rfl (Nat.le_of_ble_eq_true rfl) rfl rfl (Nat.le_of_ble_eq_true rfl) (Nat.le_of_ble_eq_true rfl) rfl) rfl rfl rfl ?_
    refine qev.mono h (fun v _ _ _ h => ?_)
    obtain ⟨r2, rfl, h⟩ := h
    refine ⟨r2, rfl, ?_⟩
    refine e_next (pc' := 41) rfl rfl ?_
    refine e_next (pc' := 42) (ls' := [_, _, _]) rfl rfl ?_
    exact h
theorem w161_42 {d : Nat} {i1 : Int32} {i2 : Int32} {g : qG} {I : qI} {J : qJ} {Q : qQ} (hs : qSh g)  (h : ((i2 = (-1) → (((I 105 4) = (-1) → qC d 154 [.ref 105] g I J (fun v _ I1 _ => ∃ r1, v = some (.int r1) ∧ ((r1 = (-1) → Q none g I1 J) ∧ (¬ r1 = (-1) → qC d 155 [.ref 105] g I1 J (fun v _ I2 _ => v = none ∧ Q none g I2 J))))) ∧ (¬ (I 105 4) = (-1) → Q none g I J))) ∧ (¬ i2 = (-1) → qC d 148 [.int i1, .int i2] g I J (fun v _ _ _ => ∃ r2, v = some (.int r2) ∧ ((r2 = 0 → ((i2 = 0 → qC d 159 [.ref 105, .int (nI 2), .int (nI 997), .int (nI 1)] g (qw I 105 3 ((I 105 3) + (nI 1))) J (fun v _ I5 _ => ∃ r6, v = some (.int r6) ∧ ((((qw I5 105 5 r6) 105 4) = (-1) → qC d 154 [.ref 105] g (qw I5 105 5 r6) J (fun v _ I6 _ => ∃ r7, v = some (.int r7) ∧ qC d 157 [.ref 1, .int r7] g I6 J (fun v _ _ _ => ∃ r8, v = some (.int r8) ∧ qev (d + 1) 161 (42, [.ref 105, .int (i1 ||| (qshl (nI 1) i2)), .int r8], [], g, I6, J) Q))) ∧ (¬ ((qw I5 105 5 r6) 105 4) = (-1) → qev (d + 1) 161 (42, [.ref 105, .int (i1 ||| (qshl (nI 1) i2)), .int (-1)], [], g, (qw I5 105 5 r6), J) Q)))) ∧ (¬ i2 = 0 → qC d 159 [.ref 105, .int (nI 2), .int (nI 24), .int (nI 0)] g (qw I 105 3 ((I 105 3) + (nI 1))) J (fun v _ I3 _ => ∃ r3, v = some (.int r3) ∧ ((((qw I3 105 6 r3) 105 4) = (-1) → qC d 154 [.ref 105] g (qw I3 105 6 r3) J (fun v _ I4 _ => ∃ r4, v = some (.int r4) ∧ qC d 157 [.ref 1, .int r4] g I4 J (fun v _ _ _ => ∃ r5, v = some (.int r5) ∧ qev (d + 1) 161 (42, [.ref 105, .int (i1 ||| (qshl (nI 1) i2)), .int r5], [], g, I4, J) Q))) ∧ (¬ ((qw I3 105 6 r3) 105 4) = (-1) → qev (d + 1) 161 (42, [.ref 105, .int (i1 ||| (qshl (nI 1) i2)), .int (-1)], [], g, (qw I3 105 6 r3), J) Q)))))) ∧ (¬ r2 = 0 → qC d 155 [.ref 105] g I J (fun v _ I7 _ => v = none ∧ Q none g I7 J))))))) : qev (d + 1) 161 (42, [.ref 105, .int i1, .int i2], [], g, I, J) Q := by
  refine e_next (pc' := 43) rfl rfl ?_
  refine e_iconst (pc' := 44) rfl rfl kc_m1 ?_
  refine e_icmp (i2 = (-1)) (pc' := 47) rfl rfl e_d (fun hc => ?_) (fun hc => ?_)
  · replace h := h.1 hc
    refine e_next (pc' := 134) rfl rfl ?_
    refine e_getI (pc' := 137) rfl (Or.inl rfl) rfl (hs.o rfl) ?_
    refine e_iconst (pc' := 138) rfl rfl kc_m1 ?_
    refine e_icmp (¬ (I 105 4) = (-1)) (pc' := 141) rfl rfl e_d (fun hc => ?_) (fun hc => ?_)
    · replace h := h.2 hc
      exact qev_ret rfl rfl h
    · replace h := h.1 (Decidable.not_not.mp hc)
      refine e_next (pc' := 142) rfl rfl ?_
      refine e_ciI (pc' := 145) rfl (e_sV (as := []) (fun _ => rfl) (Or.inl rfl) rfl (hs.o rfl) rfl rfl (Nat.le_of_ble_eq_true rfl) (Nat.le_of_ble_eq_true rfl) rfl) rfl rfl ?_
      refine qev.mono h (fun v _ I1 _ h => ?_)
      obtain ⟨r1, rfl, h⟩ := h
      refine ⟨r1, rfl, ?_⟩
      refine e_iconst (pc' := 146) rfl rfl kc_m1 ?_
      refine e_icmp (r1 = (-1)) (pc' := 149) rfl rfl e_d (fun hc => ?_) (fun hc => ?_)
      · replace h := h.1 hc
        exact qev_ret rfl rfl h
      · replace h := h.2 hc
        refine e_next (pc' := 150) rfl rfl ?_
        refine e_ciV (pc' := 153) rfl (e_sV (as := []) (fun _ => rfl) (Or.inl rfl) rfl (hs.o rfl) rfl rfl (Nat.le_of_ble_eq_true rfl) (Nat.le_of_ble_eq_true rfl) rfl) rfl rfl ?_
        refine qev.mono h (fun v _ I2 _ h => ?_)
        obtain ⟨rfl, h⟩ := h
        refine ⟨rfl, ?_⟩
        exact qev_ret rfl rfl h
  · replace h := h.2 hc
    refine e_next (pc' := 48) rfl rfl ?_
    refine e_next (pc' := 49) rfl rfl ?_
    refine e_cpI (pc' := 52) rfl (e_sS (as := [_, _]) (fun _ => rfl) rfl (Nat.le_of_ble_eq_true rfl) rfl rfl (Nat.le_of_ble_eq_true rfl) (Nat.le_of_ble_eq_true rfl) rfl) rfl rfl rfl ?_
    refine qev.mono h (fun v _ _ _ h => ?_)
    obtain ⟨r2, rfl, h⟩ := h
    refine ⟨r2, rfl, ?_⟩
    refine e_if (r2 = 0) (pc' := 55) rfl rfl e_d (fun hc => ?_) (fun hc => ?_)
    · replace h := h.1 hc
      refine e_next (pc' := 61) rfl rfl ?_
      refine e_iconst (pc' := 62) rfl rfl kc_1 ?_
      refine e_next (pc' := 63) rfl rfl ?_
      refine e_next (pc' := 64) rfl rfl ?_
      refine e_next (pc' := 65) rfl rfl ?_
      refine e_next (pc' := 66) (ls' := [_, _, _]) rfl rfl ?_
      refine e_next (pc' := 67) rfl rfl ?_
      refine e_next (pc' := 68) rfl rfl ?_
      refine e_getI (pc' := 71) rfl (Or.inl rfl) rfl (hs.o rfl) ?_
      refine e_iconst (pc' := 72) rfl rfl kc_1 ?_
      refine e_next (pc' := 73) rfl rfl ?_
      refine e_putI (pc' := 76) rfl rfl (hs.o rfl) ?_
      refine e_next (pc' := 77) rfl rfl ?_
      refine e_if (¬ i2 = 0) (pc' := 80) rfl rfl e_d (fun hc => ?_) (fun hc => ?_)
      · replace h := h.2 hc
        refine e_next (pc' := 97) rfl rfl ?_
        refine e_next (pc' := 98) rfl rfl ?_
        refine e_iconst (pc' := 99) rfl rfl kc_2 ?_
        refine e_bipush (pc' := 101) rfl rfl kb_24 ?_
        refine e_iconst (pc' := 102) rfl rfl kc_0 ?_
        refine e_ciI (pc' := 105) rfl (e_sV (as := [_, _, _]) (fun _ => rfl) (Or.inl rfl) rfl (hs.o rfl) rfl rfl (Nat.le_of_ble_eq_true rfl) (Nat.le_of_ble_eq_true rfl) rfl) rfl rfl ?_
        refine qev.mono h (fun v _ I3 _ h => ?_)
        obtain ⟨r3, rfl, h⟩ := h
        refine ⟨r3, rfl, ?_⟩
        refine e_putI (pc' := 108) rfl rfl (hs.o rfl) ?_
        refine e_next (pc' := 109) rfl rfl ?_
        refine e_getI (pc' := 112) rfl (Or.inl rfl) rfl (hs.o rfl) ?_
        refine e_iconst (pc' := 113) rfl rfl kc_m1 ?_
        refine e_icmp (¬ ((qw I3 105 6 r3) 105 4) = (-1)) (pc' := 116) rfl rfl e_d (fun hc => ?_) (fun hc => ?_)
        · replace h := h.2 hc
          refine e_iconst (pc' := 129) rfl rfl kc_m1 ?_
          refine e_next (pc' := 130) (ls' := [_, _, _]) rfl rfl ?_
          refine e_next (pc' := 42) rfl rfl ?_
          exact h
        · replace h := h.1 (Decidable.not_not.mp hc)
          refine e_next (pc' := 118) rfl rfl ?_
          refine e_next (pc' := 119) rfl rfl ?_
          refine e_ciI (pc' := 122) rfl (e_sV (as := []) (fun _ => rfl) (Or.inl rfl) rfl (hs.o rfl) rfl rfl (Nat.le_of_ble_eq_true rfl) (Nat.le_of_ble_eq_true rfl) rfl) rfl rfl ?_
          refine qev.mono h (fun v _ I4 _ h => ?_)
          obtain ⟨r4, rfl, h⟩ := h
          refine ⟨r4, rfl, ?_⟩
          refine e_cpI (pc' := 125) rfl (e_sS (as := [_, _]) (fun _ => rfl) rfl (Nat.le_of_ble_eq_true rfl) rfl rfl (Nat.le_of_ble_eq_true rfl) (Nat.le_of_ble_eq_true rfl) rfl) rfl rfl rfl ?_
          refine qev.mono h (fun v _ _ _ h => ?_)
          obtain ⟨r5, rfl, h⟩ := h
          refine ⟨r5, rfl, ?_⟩
          refine e_next (pc' := 129) rfl rfl ?_
          refine e_next (pc' := 130) (ls' := [_, _, _]) rfl rfl ?_
          refine e_next (pc' := 42) rfl rfl ?_
          exact h
      · replace h := h.1 (Decidable.not_not.mp hc)
        refine e_next (pc' := 81) rfl rfl ?_
        refine e_next (pc' := 82) rfl rfl ?_
        refine e_iconst (pc' := 83) rfl rfl kc_2 ?_
        refine e_sipush (pc' := 86) rfl rfl ks_997 ?_
        refine e_iconst (pc' := 87) rfl rfl kc_1 ?_
        refine e_ciI (pc' := 90) rfl (e_sV (as := [_, _, _]) (fun _ => rfl) (Or.inl rfl) rfl (hs.o rfl) rfl rfl (Nat.le_of_ble_eq_true rfl) (Nat.le_of_ble_eq_true rfl) rfl) rfl rfl ?_
        refine qev.mono h (fun v _ I5 _ h => ?_)
        obtain ⟨r6, rfl, h⟩ := h
        refine ⟨r6, rfl, ?_⟩
        refine e_putI (pc' := 93) rfl rfl (hs.o rfl) ?_
        refine e_next (pc' := 108) rfl rfl ?_
        refine e_next (pc' := 109) rfl rfl ?_
        refine e_getI (pc' := 112) rfl (Or.inl rfl) rfl (hs.o rfl) ?_
        refine e_iconst (pc' := 113) rfl rfl kc_m1 ?_
        refine e_icmp (¬ ((qw I5 105 5 r6) 105 4) = (-1)) (pc' := 116) rfl rfl e_d (fun hc => ?_) (fun hc => ?_)
        · replace h := h.2 hc
          refine e_iconst (pc' := 129) rfl rfl kc_m1 ?_
          refine e_next (pc' := 130) (ls' := [_, _, _]) rfl rfl ?_
          refine e_next (pc' := 42) rfl rfl ?_
          exact h
        · replace h := h.1 (Decidable.not_not.mp hc)
          refine e_next (pc' := 118) rfl rfl ?_
          refine e_next (pc' := 119) rfl rfl ?_
          refine e_ciI (pc' := 122) rfl (e_sV (as := []) (fun _ => rfl) (Or.inl rfl) rfl (hs.o rfl) rfl rfl (Nat.le_of_ble_eq_true rfl) (Nat.le_of_ble_eq_true rfl) rfl) rfl rfl ?_
          refine qev.mono h (fun v _ I6 _ h => ?_)
          obtain ⟨r7, rfl, h⟩ := h
          refine ⟨r7, rfl, ?_⟩
          refine e_cpI (pc' := 125) rfl (e_sS (as := [_, _]) (fun _ => rfl) rfl (Nat.le_of_ble_eq_true rfl) rfl rfl (Nat.le_of_ble_eq_true rfl) (Nat.le_of_ble_eq_true rfl) rfl) rfl rfl rfl ?_
          refine qev.mono h (fun v _ _ _ h => ?_)
          obtain ⟨r8, rfl, h⟩ := h
          refine ⟨r8, rfl, ?_⟩
          refine e_next (pc' := 129) rfl rfl ?_
          refine e_next (pc' := 130) (ls' := [_, _, _]) rfl rfl ?_
          refine e_next (pc' := 42) rfl rfl ?_
          exact h
    · replace h := h.2 hc
      refine e_next (pc' := 56) rfl rfl ?_
      refine e_ciV (pc' := 59) rfl (e_sV (as := []) (fun _ => rfl) (Or.inl rfl) rfl (hs.o rfl) rfl rfl (Nat.le_of_ble_eq_true rfl) (Nat.le_of_ble_eq_true rfl) rfl) rfl rfl ?_
      refine qev.mono h (fun v _ I7 _ h => ?_)
      obtain ⟨rfl, h⟩ := h
      refine ⟨rfl, ?_⟩
      exact qev_ret rfl rfl h
theorem w162 {d : Nat} {x1 : Int32} {x2 : Int32} {g : qG} {I : qI} {J : qJ} {Q : qQ} (hs : qSh g)  (h : ∃ k1, (I 105 14) = nI k1 ∧ k1 < 41 ∧ ∃ k2, (((nI 280) * (I 105 14)) + ((nI 2) * (I 108 k1))) = nI k2 ∧ k2 < 11480 ∧ ∃ k3, ((((nI 280) * (I 105 14)) + ((nI 2) * (I 108 k1))) + (nI 1)) = nI k3 ∧ k3 < 11480 ∧ ∃ k4, ((qw (qw I 109 k2 x1) 109 k3 x2) 105 14) = nI k4 ∧ k4 < 41 ∧ ∃ k5, ((qw (qw I 109 k2 x1) 109 k3 x2) 105 14) = nI k5 ∧ k5 < 41 ∧ Q none g (qw (qw (qw I 109 k2 x1) 109 k3 x2) 108 k5 (((qw (qw I 109 k2 x1) 109 k3 x2) 108 k4) + (nI 1))) J) : qC d 162 [.ref 105, .int x1, .int x2] g I J Q := by
  show qev d 162 (0, [.ref 105, .int x1, .int x2, qpad], [], g, I, J) Q
  refine e_sipush (pc' := 3) rfl rfl ks_280 ?_
  refine e_next (pc' := 4) rfl rfl ?_
  refine e_getI (pc' := 7) rfl (Or.inl rfl) rfl (hs.o rfl) ?_
  refine e_next (pc' := 8) rfl rfl ?_
  refine e_iconst (pc' := 9) rfl rfl kc_2 ?_
  refine e_next (pc' := 10) rfl rfl ?_
  refine e_getR (pc' := 13) rfl rfl (hs.o rfl) (hs.a rfl) ?_
  refine e_next (pc' := 14) rfl rfl ?_
  refine e_getI (pc' := 17) rfl (Or.inl rfl) rfl (hs.o rfl) ?_
  obtain ⟨k1, hi_k1, hj_k1, h⟩ := h
  refine e_iald k1 (pc' := 18) rfl rfl (hs.k rfl) hi_k1 hj_k1 (by decide) ?_
  refine e_next (pc' := 19) rfl rfl ?_
  refine e_next (pc' := 20) rfl rfl ?_
  refine e_next (pc' := 21) (ls' := [_, _, _, _]) rfl rfl ?_
  refine e_next (pc' := 22) rfl rfl ?_
  refine e_getR (pc' := 25) rfl rfl (hs.o rfl) (hs.a rfl) ?_
  refine e_next (pc' := 26) rfl rfl ?_
  refine e_next (pc' := 27) rfl rfl ?_
  obtain ⟨k2, hi_k2, hj_k2, h⟩ := h
  refine e_iast k2 (pc' := 28) rfl rfl (hs.k rfl) hi_k2 hj_k2 (by decide) ?_
  refine e_next (pc' := 29) rfl rfl ?_
  refine e_getR (pc' := 32) rfl rfl (hs.o rfl) (hs.a rfl) ?_
  refine e_next (pc' := 33) rfl rfl ?_
  refine e_iconst (pc' := 34) rfl rfl kc_1 ?_
  refine e_next (pc' := 35) rfl rfl ?_
  refine e_next (pc' := 36) rfl rfl ?_
  obtain ⟨k3, hi_k3, hj_k3, h⟩ := h
  refine e_iast k3 (pc' := 37) rfl rfl (hs.k rfl) hi_k3 hj_k3 (by decide) ?_
  refine e_next (pc' := 38) rfl rfl ?_
  refine e_getR (pc' := 41) rfl rfl (hs.o rfl) (hs.a rfl) ?_
  refine e_next (pc' := 42) rfl rfl ?_
  refine e_getI (pc' := 45) rfl (Or.inl rfl) rfl (hs.o rfl) ?_
  refine e_next (pc' := 46) rfl rfl ?_
  obtain ⟨k4, hi_k4, hj_k4, h⟩ := h
  refine e_iald k4 (pc' := 47) rfl rfl (hs.k rfl) hi_k4 hj_k4 (by decide) ?_
  refine e_iconst (pc' := 48) rfl rfl kc_1 ?_
  refine e_next (pc' := 49) rfl rfl ?_
  obtain ⟨k5, hi_k5, hj_k5, h⟩ := h
  refine e_iast k5 (pc' := 50) rfl rfl (hs.k rfl) hi_k5 hj_k5 (by decide) ?_
  exact qev_ret rfl rfl h
theorem w163 {d : Nat}  {g : qG} {I : qI} {J : qJ} {Q : qQ} (hs : qSh g)  (h : (((I 105 4) = (-1) → qC d 154 [.ref 105] g I J (fun v _ I1 _ => ∃ r1, v = some (.int r1) ∧ ((r1 = (nI 40) → (((I1 105 15) = (nI 8) → qC d 155 [.ref 105] g I1 J (fun v _ I3 _ => v = none ∧ Q none g I3 J)) ∧ (¬ (I1 105 15) = (nI 8) → Q none g (qw (qw I1 105 15 ((I1 105 15) + (nI 1))) 105 3 (((qw I1 105 15 ((I1 105 15) + (nI 1))) 105 3) + (nI 1))) J))) ∧ (¬ r1 = (nI 40) → qC d 155 [.ref 105] g I1 J (fun v _ I2 _ => v = none ∧ Q none g I2 J))))) ∧ (¬ (I 105 4) = (-1) → Q none g I J))) : qC (d + 1) 163 [.ref 105] g I J Q := by
  show qev (d + 1) 163 (0, [.ref 105], [], g, I, J) Q
  refine e_next (pc' := 1) rfl rfl ?_
  refine e_getI (pc' := 4) rfl (Or.inl rfl) rfl (hs.o rfl) ?_
  refine e_iconst (pc' := 5) rfl rfl kc_m1 ?_
  refine e_icmp ((I 105 4) = (-1)) (pc' := 8) rfl rfl e_d (fun hc => ?_) (fun hc => ?_)
  · replace h := h.1 hc
    refine e_next (pc' := 10) rfl rfl ?_
    refine e_ciI (pc' := 13) rfl (e_sV (as := []) (fun _ => rfl) (Or.inl rfl) rfl (hs.o rfl) rfl rfl (Nat.le_of_ble_eq_true rfl) (Nat.le_of_ble_eq_true rfl) rfl) rfl rfl ?_
    refine qev.mono h (fun v _ I1 _ h => ?_)
    obtain ⟨r1, rfl, h⟩ := h
    refine ⟨r1, rfl, ?_⟩
    refine e_bipush (pc' := 15) rfl rfl kb_40 ?_
    refine e_icmp (¬ r1 = (nI 40)) (pc' := 18) rfl rfl e_d (fun hc => ?_) (fun hc => ?_)
    · replace h := h.2 hc
      refine e_next (pc' := 28) rfl rfl ?_
      refine e_ciV (pc' := 31) rfl (e_sV (as := []) (fun _ => rfl) (Or.inl rfl) rfl (hs.o rfl) rfl rfl (Nat.le_of_ble_eq_true rfl) (Nat.le_of_ble_eq_true rfl) rfl) rfl rfl ?_
      refine qev.mono h (fun v _ I2 _ h => ?_)
      obtain ⟨rfl, h⟩ := h
      refine ⟨rfl, ?_⟩
      exact qev_ret rfl rfl h
    · replace h := h.1 (Decidable.not_not.mp hc)
      refine e_next (pc' := 19) rfl rfl ?_
      refine e_getI (pc' := 22) rfl (Or.inl rfl) rfl (hs.o rfl) ?_
      refine e_bipush (pc' := 24) rfl rfl kb_8 ?_
      refine e_icmp (¬ (I1 105 15) = (nI 8)) (pc' := 27) rfl rfl e_d (fun hc => ?_) (fun hc => ?_)
      · replace h := h.2 hc
        refine e_next (pc' := 33) rfl rfl ?_
        refine e_next (pc' := 34) rfl rfl ?_
        refine e_getI (pc' := 37) rfl (Or.inl rfl) rfl (hs.o rfl) ?_
        refine e_iconst (pc' := 38) rfl rfl kc_1 ?_
        refine e_next (pc' := 39) rfl rfl ?_
        refine e_putI (pc' := 42) rfl rfl (hs.o rfl) ?_
        refine e_next (pc' := 43) rfl rfl ?_
        refine e_next (pc' := 44) rfl rfl ?_
        refine e_getI (pc' := 47) rfl (Or.inl rfl) rfl (hs.o rfl) ?_
        refine e_iconst (pc' := 48) rfl rfl kc_1 ?_
        refine e_next (pc' := 49) rfl rfl ?_
        refine e_putI (pc' := 52) rfl rfl (hs.o rfl) ?_
        exact qev_ret rfl rfl h
      · replace h := h.1 (Decidable.not_not.mp hc)
        refine e_next (pc' := 28) rfl rfl ?_
        refine e_ciV (pc' := 31) rfl (e_sV (as := []) (fun _ => rfl) (Or.inl rfl) rfl (hs.o rfl) rfl rfl (Nat.le_of_ble_eq_true rfl) (Nat.le_of_ble_eq_true rfl) rfl) rfl rfl ?_
        refine qev.mono h (fun v _ I3 _ h => ?_)
        obtain ⟨rfl, h⟩ := h
        refine ⟨rfl, ?_⟩
        exact qev_ret rfl rfl h
  · replace h := h.2 hc
    exact qev_ret rfl rfl h
theorem w164 {d : Nat}  {g : qG} {I : qI} {J : qJ} {Q : qQ} (hs : qSh g)  (h : qC d 160 [.ref 105, .int (nI 41)] g I J (fun v _ I1 _ => v = none ∧ Q none g (qw I1 105 15 ((I1 105 15) - (nI 1))) J)) : qC (d + 1) 164 [.ref 105] g I J Q := by
  show qev (d + 1) 164 (0, [.ref 105], [], g, I, J) Q
  refine e_next (pc' := 1) rfl rfl ?_
  refine e_bipush (pc' := 3) rfl rfl kb_41 ?_
  refine e_ciV (pc' := 6) rfl (e_sV (as := [_]) (fun _ => rfl) (Or.inl rfl) rfl (hs.o rfl) rfl rfl (Nat.le_of_ble_eq_true rfl) (Nat.le_of_ble_eq_true rfl) rfl) rfl rfl ?_
  refine qev.mono h (fun v _ I1 _ h => ?_)
  obtain ⟨rfl, h⟩ := h
  refine ⟨rfl, ?_⟩
  refine e_next (pc' := 7) rfl rfl ?_
  refine e_next (pc' := 8) rfl rfl ?_
  refine e_getI (pc' := 11) rfl (Or.inl rfl) rfl (hs.o rfl) ?_
  refine e_iconst (pc' := 12) rfl rfl kc_1 ?_
  refine e_next (pc' := 13) rfl rfl ?_
  refine e_putI (pc' := 16) rfl rfl (hs.o rfl) ?_
  exact qev_ret rfl rfl h
theorem w165 {d : Nat}  {g : qG} {I : qI} {J : qJ} {Q : qQ} (hs : qSh g)  (h : qC d 166 [.ref 105] g I J (fun v _ I1 _ => v = none ∧ qev (d + 1) 165 (4, [.ref 105, qpad], [], g, I1, J) Q)) : qC (d + 1) 165 [.ref 105] g I J Q := by
  show qev (d + 1) 165 (0, [.ref 105, qpad], [], g, I, J) Q
  refine e_next (pc' := 1) rfl rfl ?_
  refine e_ciV (pc' := 4) rfl (e_sV (as := []) (fun _ => rfl) (Or.inl rfl) rfl (hs.o rfl) rfl rfl (Nat.le_of_ble_eq_true rfl) (Nat.le_of_ble_eq_true rfl) rfl) rfl rfl ?_
  refine qev.mono h (fun v _ I1 _ h => ?_)
  obtain ⟨rfl, h⟩ := h
  refine ⟨rfl, ?_⟩
  exact h
theorem w165_4 {d : Nat} {w1 : Value} {g : qG} {I : qI} {J : qJ} {Q : qQ} (hs : qSh g)  (h : (((I 105 4) = (-1) → qC d 154 [.ref 105] g I J (fun v _ I1 _ => ∃ r1, v = some (.int r1) ∧ ((r1 = (nI 43) → qev (d + 1) 165 (30, [.ref 105, w1], [], g, I1, J) Q) ∧ (¬ r1 = (nI 43) → qC d 154 [.ref 105] g I1 J (fun v _ I2 _ => ∃ r2, v = some (.int r2) ∧ ((r2 = (nI 45) → qev (d + 1) 165 (30, [.ref 105, w1], [], g, I2, J) Q) ∧ (¬ r2 = (nI 45) → Q none g I2 J))))))) ∧ (¬ (I 105 4) = (-1) → Q none g I J))) : qev (d + 1) 165 (4, [.ref 105, w1], [], g, I, J) Q := by
  refine e_next (pc' := 5) rfl rfl ?_
  refine e_getI (pc' := 8) rfl (Or.inl rfl) rfl (hs.o rfl) ?_
  refine e_iconst (pc' := 9) rfl rfl kc_m1 ?_
  refine e_icmp (¬ (I 105 4) = (-1)) (pc' := 12) rfl rfl e_d (fun hc => ?_) (fun hc => ?_)
  · replace h := h.2 hc
    exact qev_ret rfl rfl h
  · replace h := h.1 (Decidable.not_not.mp hc)
    refine e_next (pc' := 13) rfl rfl ?_
    refine e_ciI (pc' := 16) rfl (e_sV (as := []) (fun _ => rfl) (Or.inl rfl) rfl (hs.o rfl) rfl rfl (Nat.le_of_ble_eq_true rfl) (Nat.le_of_ble_eq_true rfl) rfl) rfl rfl ?_
    refine qev.mono h (fun v _ I1 _ h => ?_)
    obtain ⟨r1, rfl, h⟩ := h
    refine ⟨r1, rfl, ?_⟩
    refine e_bipush (pc' := 18) rfl rfl kb_43 ?_
    refine e_icmp (r1 = (nI 43)) (pc' := 21) rfl rfl e_d (fun hc => ?_) (fun hc => ?_)
    · replace h := h.1 hc
      exact h
    · replace h := h.2 hc
      refine e_next (pc' := 22) rfl rfl ?_
      refine e_ciI (pc' := 25) rfl (e_sV (as := []) (fun _ => rfl) (Or.inl rfl) rfl (hs.o rfl) rfl rfl (Nat.le_of_ble_eq_true rfl) (Nat.le_of_ble_eq_true rfl) rfl) rfl rfl ?_
      refine qev.mono h (fun v _ I2 _ h => ?_)
      obtain ⟨r2, rfl, h⟩ := h
      refine ⟨r2, rfl, ?_⟩
      refine e_bipush (pc' := 27) rfl rfl kb_45 ?_
      refine e_icmp (¬ r2 = (nI 45)) (pc' := 30) rfl rfl e_d (fun hc => ?_) (fun hc => ?_)
      · replace h := h.2 hc
        exact qev_ret rfl rfl h
      · replace h := h.1 (Decidable.not_not.mp hc)
        exact h
theorem w165_30 {d : Nat} {w1 : Value} {g : qG} {I : qI} {J : qJ} {Q : qQ} (hs : qSh g)  (h : qC d 154 [.ref 105] g I J (fun v _ I1 _ => ∃ r1, v = some (.int r1) ∧ ((r1 = (nI 43) → qC d 166 [.ref 105] g (qw I1 105 3 ((I1 105 3) + (nI 1))) J (fun v _ I4 _ => v = none ∧ qC d 162 [.ref 105, .int (nI 3), .int (nI 0)] g I4 J (fun v _ I5 _ => v = none ∧ qev (d + 1) 165 (4, [.ref 105, .int (nI 3)], [], g, I5, J) Q))) ∧ (¬ r1 = (nI 43) → qC d 166 [.ref 105] g (qw I1 105 3 ((I1 105 3) + (nI 1))) J (fun v _ I2 _ => v = none ∧ qC d 162 [.ref 105, .int (nI 4), .int (nI 0)] g I2 J (fun v _ I3 _ => v = none ∧ qev (d + 1) 165 (4, [.ref 105, .int (nI 4)], [], g, I3, J) Q)))))) : qev (d + 1) 165 (30, [.ref 105, w1], [], g, I, J) Q := by
  refine e_next (pc' := 31) rfl rfl ?_
  refine e_ciI (pc' := 34) rfl (e_sV (as := []) (fun _ => rfl) (Or.inl rfl) rfl (hs.o rfl) rfl rfl (Nat.le_of_ble_eq_true rfl) (Nat.le_of_ble_eq_true rfl) rfl) rfl rfl ?_
  refine qev.mono h (fun v _ I1 _ h => ?_)
  obtain ⟨r1, rfl, h⟩ := h
  refine ⟨r1, rfl, ?_⟩
  refine e_bipush (pc' := 36) rfl rfl kb_43 ?_
  refine e_icmp (¬ r1 = (nI 43)) (pc' := 39) rfl rfl e_d (fun hc => ?_) (fun hc => ?_)
  · replace h := h.2 hc
    refine e_iconst (pc' := 44) rfl rfl kc_4 ?_
    refine e_next (pc' := 45) (ls' := [_, _]) rfl rfl ?_
    refine e_next (pc' := 46) rfl rfl ?_
    refine e_next (pc' := 47) rfl rfl ?_
    refine e_getI (pc' := 50) rfl (Or.inl rfl) rfl (hs.o rfl) ?_
    refine e_iconst (pc' := 51) rfl rfl kc_1 ?_
    refine e_next (pc' := 52) rfl rfl ?_
    refine e_putI (pc' := 55) rfl rfl (hs.o rfl) ?_
    refine e_next (pc' := 56) rfl rfl ?_
    refine e_ciV (pc' := 59) rfl (e_sV (as := []) (fun _ => rfl) (Or.inl rfl) rfl (hs.o rfl) rfl rfl (Nat.le_of_ble_eq_true rfl) (Nat.le_of_ble_eq_true rfl) rfl) rfl rfl ?_
    refine qev.mono h (fun v _ I2 _ h => ?_)
    obtain ⟨rfl, h⟩ := h
    refine ⟨rfl, ?_⟩
    refine e_next (pc' := 60) rfl rfl ?_
    refine e_next (pc' := 61) rfl rfl ?_
    refine e_iconst (pc' := 62) rfl rfl kc_0 ?_
    refine e_ciV (pc' := 65) rfl (e_sV (as := [_, _]) (fun _ => rfl) (Or.inl rfl) rfl (hs.o rfl) rfl rfl (Nat.le_of_ble_eq_true rfl) (Nat.le_of_ble_eq_true rfl) rfl) rfl rfl ?_
    refine qev.mono h (fun v _ I3 _ h => ?_)
    obtain ⟨rfl, h⟩ := h
    refine ⟨rfl, ?_⟩
    refine e_next (pc' := 4) rfl rfl ?_
    exact h
  · replace h := h.1 (Decidable.not_not.mp hc)
    refine e_iconst (pc' := 40) rfl rfl kc_3 ?_
    refine e_next (pc' := 44) rfl rfl ?_
    refine e_next (pc' := 45) (ls' := [_, _]) rfl rfl ?_
    refine e_next (pc' := 46) rfl rfl ?_
    refine e_next (pc' := 47) rfl rfl ?_
    refine e_getI (pc' := 50) rfl (Or.inl rfl) rfl (hs.o rfl) ?_
    refine e_iconst (pc' := 51) rfl rfl kc_1 ?_
    refine e_next (pc' := 52) rfl rfl ?_
    refine e_putI (pc' := 55) rfl rfl (hs.o rfl) ?_
    refine e_next (pc' := 56) rfl rfl ?_
    refine e_ciV (pc' := 59) rfl (e_sV (as := []) (fun _ => rfl) (Or.inl rfl) rfl (hs.o rfl) rfl rfl (Nat.le_of_ble_eq_true rfl) (Nat.le_of_ble_eq_true rfl) rfl) rfl rfl ?_
    refine qev.mono h (fun v _ I4 _ h => ?_)
    obtain ⟨rfl, h⟩ := h
    refine ⟨rfl, ?_⟩
    refine e_next (pc' := 60) rfl rfl ?_
    refine e_next (pc' := 61) rfl rfl ?_
    refine e_iconst (pc' := 62) rfl rfl kc_0 ?_
    refine e_ciV (pc' := 65) rfl (e_sV (as := [_, _]) (fun _ => rfl) (Or.inl rfl) rfl (hs.o rfl) rfl rfl (Nat.le_of_ble_eq_true rfl) (Nat.le_of_ble_eq_true rfl) rfl) rfl rfl ?_
    refine qev.mono h (fun v _ I5 _ h => ?_)
    obtain ⟨rfl, h⟩ := h
    refine ⟨rfl, ?_⟩
    refine e_next (pc' := 4) rfl rfl ?_
    exact h
theorem w166 {d : Nat}  {g : qG} {I : qI} {J : qJ} {Q : qQ} (hs : qSh g)  (h : qC d 167 [.ref 105] g I J (fun v _ I1 _ => v = none ∧ qev (d + 1) 166 (4, [.ref 105, qpad], [], g, I1, J) Q)) : qC (d + 1) 166 [.ref 105] g I J Q := by
  show qev (d + 1) 166 (0, [.ref 105, qpad], [], g, I, J) Q
  refine e_next (pc' := 1) rfl rfl ?_
  refine e_ciV (pc' := 4) rfl (e_sV (as := []) (fun _ => rfl) (Or.inl rfl) rfl (hs.o rfl) rfl rfl (Nat.le_of_ble_eq_true rfl) (Nat.le_of_ble_eq_true rfl) rfl) rfl rfl ?_
  refine qev.mono h (fun v _ I1 _ h => ?_)
  obtain ⟨rfl, h⟩ := h
  refine ⟨rfl, ?_⟩
  exact h
theorem w166_4 {d : Nat} {w1 : Value} {g : qG} {I : qI} {J : qJ} {Q : qQ} (hs : qSh g)  (h : (((I 105 4) = (-1) → qC d 154 [.ref 105] g I J (fun v _ I1 _ => ∃ r1, v = some (.int r1) ∧ ((r1 = (nI 42) → qev (d + 1) 166 (30, [.ref 105, w1], [], g, I1, J) Q) ∧ (¬ r1 = (nI 42) → qC d 154 [.ref 105] g I1 J (fun v _ I2 _ => ∃ r2, v = some (.int r2) ∧ ((r2 = (nI 47) → qev (d + 1) 166 (30, [.ref 105, w1], [], g, I2, J) Q) ∧ (¬ r2 = (nI 47) → Q none g I2 J))))))) ∧ (¬ (I 105 4) = (-1) → Q none g I J))) : qev (d + 1) 166 (4, [.ref 105, w1], [], g, I, J) Q := by
  refine e_next (pc' := 5) rfl rfl ?_
  refine e_getI (pc' := 8) rfl (Or.inl rfl) rfl (hs.o rfl) ?_
  refine e_iconst (pc' := 9) rfl rfl kc_m1 ?_
  refine e_icmp (¬ (I 105 4) = (-1)) (pc' := 12) rfl rfl e_d (fun hc => ?_) (fun hc => ?_)
  · replace h := h.2 hc
    exact qev_ret rfl rfl h
  · replace h := h.1 (Decidable.not_not.mp hc)
    refine e_next (pc' := 13) rfl rfl ?_
    refine e_ciI (pc' := 16) rfl (e_sV (as := []) (fun _ => rfl) (Or.inl rfl) rfl (hs.o rfl) rfl rfl (Nat.le_of_ble_eq_true rfl) (Nat.le_of_ble_eq_true rfl) rfl) rfl rfl ?_
    refine qev.mono h (fun v _ I1 _ h => ?_)
    obtain ⟨r1, rfl, h⟩ := h
    refine ⟨r1, rfl, ?_⟩
    refine e_bipush (pc' := 18) rfl rfl kb_42 ?_
    refine e_icmp (r1 = (nI 42)) (pc' := 21) rfl rfl e_d (fun hc => ?_) (fun hc => ?_)
    · replace h := h.1 hc
      exact h
    · replace h := h.2 hc
      refine e_next (pc' := 22) rfl rfl ?_
      refine e_ciI (pc' := 25) rfl (e_sV (as := []) (fun _ => rfl) (Or.inl rfl) rfl (hs.o rfl) rfl rfl (Nat.le_of_ble_eq_true rfl) (Nat.le_of_ble_eq_true rfl) rfl) rfl rfl ?_
      refine qev.mono h (fun v _ I2 _ h => ?_)
      obtain ⟨r2, rfl, h⟩ := h
      refine ⟨r2, rfl, ?_⟩
      refine e_bipush (pc' := 27) rfl rfl kb_47 ?_
      refine e_icmp (¬ r2 = (nI 47)) (pc' := 30) rfl rfl e_d (fun hc => ?_) (fun hc => ?_)
      · replace h := h.2 hc
        exact qev_ret rfl rfl h
      · replace h := h.1 (Decidable.not_not.mp hc)
        exact h
theorem w166_30 {d : Nat} {w1 : Value} {g : qG} {I : qI} {J : qJ} {Q : qQ} (hs : qSh g)  (h : qC d 154 [.ref 105] g I J (fun v _ I1 _ => ∃ r1, v = some (.int r1) ∧ ((r1 = (nI 42) → qC d 167 [.ref 105] g (qw I1 105 3 ((I1 105 3) + (nI 1))) J (fun v _ I4 _ => v = none ∧ qC d 162 [.ref 105, .int (nI 5), .int (nI 0)] g I4 J (fun v _ I5 _ => v = none ∧ qev (d + 1) 166 (4, [.ref 105, .int (nI 5)], [], g, I5, J) Q))) ∧ (¬ r1 = (nI 42) → qC d 167 [.ref 105] g (qw I1 105 3 ((I1 105 3) + (nI 1))) J (fun v _ I2 _ => v = none ∧ qC d 162 [.ref 105, .int (nI 6), .int (nI 0)] g I2 J (fun v _ I3 _ => v = none ∧ qev (d + 1) 166 (4, [.ref 105, .int (nI 6)], [], g, I3, J) Q)))))) : qev (d + 1) 166 (30, [.ref 105, w1], [], g, I, J) Q := by
  refine e_next (pc' := 31) rfl rfl ?_
  refine e_ciI (pc' := 34) rfl (e_sV (as := []) (fun _ => rfl) (Or.inl rfl) rfl (hs.o rfl) rfl rfl (Nat.le_of_ble_eq_true rfl) (Nat.le_of_ble_eq_true rfl) rfl) rfl rfl ?_
  refine qev.mono h (fun v _ I1 _ h => ?_)
  obtain ⟨r1, rfl, h⟩ := h
  refine ⟨r1, rfl, ?_⟩
  refine e_bipush (pc' := 36) rfl rfl kb_42 ?_
  refine e_icmp (¬ r1 = (nI 42)) (pc' := 39) rfl rfl e_d (fun hc => ?_) (fun hc => ?_)
  · replace h := h.2 hc
    refine e_bipush (pc' := 45) rfl rfl kb_6 ?_
    refine e_next (pc' := 46) (ls' := [_, _]) rfl rfl ?_
    refine e_next (pc' := 47) rfl rfl ?_
    refine e_next (pc' := 48) rfl rfl ?_
    refine e_getI (pc' := 51) rfl (Or.inl rfl) rfl (hs.o rfl) ?_
    refine e_iconst (pc' := 52) rfl rfl kc_1 ?_
    refine e_next (pc' := 53) rfl rfl ?_
    refine e_putI (pc' := 56) rfl rfl (hs.o rfl) ?_
    refine e_next (pc' := 57) rfl rfl ?_
    refine e_ciV (pc' := 60) rfl (e_sV (as := []) (fun _ => rfl) (Or.inl rfl) rfl (hs.o rfl) rfl rfl (Nat.le_of_ble_eq_true rfl) (Nat.le_of_ble_eq_true rfl) rfl) rfl rfl ?_
    refine qev.mono h (fun v _ I2 _ h => ?_)
    obtain ⟨rfl, h⟩ := h
    refine ⟨rfl, ?_⟩
    refine e_next (pc' := 61) rfl rfl ?_
    refine e_next (pc' := 62) rfl rfl ?_
    refine e_iconst (pc' := 63) rfl rfl kc_0 ?_
    refine e_ciV (pc' := 66) rfl (e_sV (as := [_, _]) (fun _ => rfl) (Or.inl rfl) rfl (hs.o rfl) rfl rfl (Nat.le_of_ble_eq_true rfl) (Nat.le_of_ble_eq_true rfl) rfl) rfl rfl ?_
    refine qev.mono h (fun v _ I3 _ h => ?_)
    obtain ⟨rfl, h⟩ := h
    refine ⟨rfl, ?_⟩
    refine e_next (pc' := 4) rfl rfl ?_
    exact h
  · replace h := h.1 (Decidable.not_not.mp hc)
    refine e_iconst (pc' := 40) rfl rfl kc_5 ?_
    refine e_next (pc' := 45) rfl rfl ?_
    refine e_next (pc' := 46) (ls' := [_, _]) rfl rfl ?_
    refine e_next (pc' := 47) rfl rfl ?_
    refine e_next (pc' := 48) rfl rfl ?_
    refine e_getI (pc' := 51) rfl (Or.inl rfl) rfl (hs.o rfl) ?_
    refine e_iconst (pc' := 52) rfl rfl kc_1 ?_
    refine e_next (pc' := 53) rfl rfl ?_
    refine e_putI (pc' := 56) rfl rfl (hs.o rfl) ?_
    refine e_next (pc' := 57) rfl rfl ?_
    refine e_ciV (pc' := 60) rfl (e_sV (as := []) (fun _ => rfl) (Or.inl rfl) rfl (hs.o rfl) rfl rfl (Nat.le_of_ble_eq_true rfl) (Nat.le_of_ble_eq_true rfl) rfl) rfl rfl ?_
    refine qev.mono h (fun v _ I4 _ h => ?_)
    obtain ⟨rfl, h⟩ := h
    refine ⟨rfl, ?_⟩
    refine e_next (pc' := 61) rfl rfl ?_
    refine e_next (pc' := 62) rfl rfl ?_
    refine e_iconst (pc' := 63) rfl rfl kc_0 ?_
    refine e_ciV (pc' := 66) rfl (e_sV (as := [_, _]) (fun _ => rfl) (Or.inl rfl) rfl (hs.o rfl) rfl rfl (Nat.le_of_ble_eq_true rfl) (Nat.le_of_ble_eq_true rfl) rfl) rfl rfl ?_
    refine qev.mono h (fun v _ I5 _ h => ?_)
    obtain ⟨rfl, h⟩ := h
    refine ⟨rfl, ?_⟩
    refine e_next (pc' := 4) rfl rfl ?_
    exact h
theorem w167 {d : Nat}  {g : qG} {I : qI} {J : qJ} {Q : qQ} (hs : qSh g)  (h : qC d 168 [.ref 105] g I J (fun v _ I1 _ => v = none ∧ (((I1 105 4) = (-1) → qC d 154 [.ref 105] g I1 J (fun v _ I2 _ => ∃ r1, v = some (.int r1) ∧ ((r1 = (nI 94) → qC d 159 [.ref 105, .int (nI 0), .int (nI 99), .int (nI 0)] g (qw I2 105 3 ((I2 105 3) + (nI 1))) J (fun v _ I3 _ => ∃ r2, v = some (.int r2) ∧ qC d 162 [.ref 105, .int (nI 7), .int r2] g I3 J (fun v _ I4 _ => v = none ∧ Q none g I4 J))) ∧ (¬ r1 = (nI 94) → Q none g I2 J)))) ∧ (¬ (I1 105 4) = (-1) → Q none g I1 J)))) : qC (d + 1) 167 [.ref 105] g I J Q := by
  show qev (d + 1) 167 (0, [.ref 105], [], g, I, J) Q
  refine e_next (pc' := 1) rfl rfl ?_
  refine e_ciV (pc' := 4) rfl (e_sV (as := []) (fun _ => rfl) (Or.inl rfl) rfl (hs.o rfl) rfl rfl (Nat.le_of_ble_eq_true rfl) (Nat.le_of_ble_eq_true rfl) rfl) rfl rfl ?_
  refine qev.mono h (fun v _ I1 _ h => ?_)
  obtain ⟨rfl, h⟩ := h
  refine ⟨rfl, ?_⟩
  refine e_next (pc' := 5) rfl rfl ?_
  refine e_getI (pc' := 8) rfl (Or.inl rfl) rfl (hs.o rfl) ?_
  refine e_iconst (pc' := 9) rfl rfl kc_m1 ?_
  refine e_icmp (¬ (I1 105 4) = (-1)) (pc' := 12) rfl rfl e_d (fun hc => ?_) (fun hc => ?_)
  · replace h := h.2 hc
    exact qev_ret rfl rfl h
  · replace h := h.1 (Decidable.not_not.mp hc)
    refine e_next (pc' := 13) rfl rfl ?_
    refine e_ciI (pc' := 16) rfl (e_sV (as := []) (fun _ => rfl) (Or.inl rfl) rfl (hs.o rfl) rfl rfl (Nat.le_of_ble_eq_true rfl) (Nat.le_of_ble_eq_true rfl) rfl) rfl rfl ?_
    refine qev.mono h (fun v _ I2 _ h => ?_)
    obtain ⟨r1, rfl, h⟩ := h
    refine ⟨r1, rfl, ?_⟩
    refine e_bipush (pc' := 18) rfl rfl kb_94 ?_
    refine e_icmp (r1 = (nI 94)) (pc' := 21) rfl rfl e_d (fun hc => ?_) (fun hc => ?_)
    · replace h := h.1 hc
      refine e_next (pc' := 23) rfl rfl ?_
      refine e_next (pc' := 24) rfl rfl ?_
      refine e_getI (pc' := 27) rfl (Or.inl rfl) rfl (hs.o rfl) ?_
      refine e_iconst (pc' := 28) rfl rfl kc_1 ?_
      refine e_next (pc' := 29) rfl rfl ?_
      refine e_putI (pc' := 32) rfl rfl (hs.o rfl) ?_
      refine e_next (pc' := 33) rfl rfl ?_
      refine e_bipush (pc' := 35) rfl rfl kb_7 ?_
      refine e_next (pc' := 36) rfl rfl ?_
      refine e_iconst (pc' := 37) rfl rfl kc_0 ?_
      refine e_bipush (pc' := 39) rfl rfl kb_99 ?_
      refine e_iconst (pc' := 40) rfl rfl kc_0 ?_
      refine e_ciI (pc' := 43) rfl (e_sV (as := [_, _, _]) (fun _ => rfl) (Or.inl rfl) rfl (hs.o rfl) rfl rfl (Nat.le_of_ble_eq_true rfl) (Nat.le_of_ble_eq_true rfl) rfl) rfl rfl ?_
      refine qev.mono h (fun v _ I3 _ h => ?_)
      obtain ⟨r2, rfl, h⟩ := h
      refine ⟨r2, rfl, ?_⟩
      refine e_ciV (pc' := 46) rfl (e_sV (as := [_, _]) (fun _ => rfl) (Or.inl rfl) rfl (hs.o rfl) rfl rfl (Nat.le_of_ble_eq_true rfl) (Nat.le_of_ble_eq_true rfl) rfl) rfl rfl ?_
      refine qev.mono h (fun v _ I4 _ h => ?_)
      obtain ⟨rfl, h⟩ := h
      refine ⟨rfl, ?_⟩
      exact qev_ret rfl rfl h
    · replace h := h.2 hc
      exact qev_ret rfl rfl h
theorem w168 {d : Nat}  {g : qG} {I : qI} {J : qJ} {Q : qQ} (hs : qSh g)  (h : (((I 105 4) = (-1) → qC d 154 [.ref 105] g I J (fun v _ I1 _ => ∃ r1, v = some (.int r1) ∧ ((r1 = (nI 40) → qC d 163 [.ref 105] g I1 J (fun v _ I4 _ => v = none ∧ (((I4 105 4) = (-1) → qC d 165 [.ref 105] g I4 J (fun v _ I6 _ => v = none ∧ qC d 164 [.ref 105] g I6 J (fun v _ I7 _ => v = none ∧ Q none g I7 J))) ∧ (¬ (I4 105 4) = (-1) → qC d 164 [.ref 105] g I4 J (fun v _ I5 _ => v = none ∧ Q none g I5 J))))) ∧ (¬ r1 = (nI 40) → qC d 157 [.ref 2, .int r1] g I1 J (fun v _ _ _ => ∃ r2, v = some (.int r2) ∧ qC d 157 [.ref 3, .int r1] g I1 J (fun v _ _ _ => ∃ r3, v = some (.int r3) ∧ (((I1 105 16) = (nI 24) → qC d 155 [.ref 105] g I1 J (fun v _ I2 _ => v = none ∧ Q none g I2 J)) ∧ (¬ (I1 105 16) = (nI 24) → qC d 156 [.ref 105] g I1 J (fun v _ _ _ => ∃ r4, v = some (.int r4) ∧ ((r4 = 0 → ((r1 = (nI 120) → qev (d + 1) 168 (92, [.ref 105, .int r1, .int r2, .int r3], [], g, I1, J) Q) ∧ (¬ r1 = (nI 120) → ((r2 = (-1) → ((r3 = (-1) → qC d 155 [.ref 105] g I1 J (fun v _ I3 _ => v = none ∧ Q none g I3 J)) ∧ (¬ r3 = (-1) → qev (d + 1) 168 (92, [.ref 105, .int r1, .int r2, .int r3], [], g, I1, J) Q))) ∧ (¬ r2 = (-1) → qev (d + 1) 168 (92, [.ref 105, .int r1, .int r2, .int r3], [], g, I1, J) Q))))) ∧ (¬ r4 = 0 → qev (d + 1) 168 (92, [.ref 105, .int r1, .int r2, .int r3], [], g, I1, J) Q))))))))))) ∧ (¬ (I 105 4) = (-1) → Q none g I J))) : qC (d + 1) 168 [.ref 105] g I J Q := by
  show qev (d + 1) 168 (0, [.ref 105, qpad, qpad, qpad], [], g, I, J) Q
  refine e_next (pc' := 1) rfl rfl ?_
  refine e_getI (pc' := 4) rfl (Or.inl rfl) rfl (hs.o rfl) ?_
  refine e_iconst (pc' := 5) rfl rfl kc_m1 ?_
  refine e_icmp ((I 105 4) = (-1)) (pc' := 8) rfl rfl e_d (fun hc => ?_) (fun hc => ?_)
  · replace h := h.1 hc
    refine e_next (pc' := 10) rfl rfl ?_
    refine e_ciI (pc' := 13) rfl (e_sV (as := []) (fun _ => rfl) (Or.inl rfl) rfl (hs.o rfl) rfl rfl (Nat.le_of_ble_eq_true rfl) (Nat.le_of_ble_eq_true rfl) rfl) rfl rfl ?_
    refine qev.mono h (fun v _ I1 _ h => ?_)
    obtain ⟨r1, rfl, h⟩ := h
    refine ⟨r1, rfl, ?_⟩
    refine e_next (pc' := 14) (ls' := [_, _, _, _]) rfl rfl ?_
    refine e_next (pc' := 15) rfl rfl ?_
    refine e_bipush (pc' := 17) rfl rfl kb_40 ?_
    refine e_icmp (¬ r1 = (nI 40)) (pc' := 20) rfl rfl e_d (fun hc => ?_) (fun hc => ?_)
    · replace h := h.2 hc
      refine e_next (pc' := 43) rfl rfl ?_
      refine e_next (pc' := 44) rfl rfl ?_
      refine e_cpI (pc' := 47) rfl (e_sS (as := [_, _]) (fun _ => rfl) rfl (Nat.le_of_ble_eq_true rfl) rfl rfl (Nat.le_of_ble_eq_true rfl) (Nat.le_of_ble_eq_true rfl) rfl) rfl rfl rfl ?_
      refine qev.mono h (fun v _ _ _ h => ?_)
      obtain ⟨r2, rfl, h⟩ := h
      refine ⟨r2, rfl, ?_⟩
      refine e_next (pc' := 48) (ls' := [_, _, _, _]) rfl rfl ?_
      refine e_next (pc' := 50) rfl rfl ?_
      refine e_next (pc' := 51) rfl rfl ?_
      refine e_cpI (pc' := 54) rfl (e_sS (as := [_, _]) (fun _ => rfl) rfl (Nat.le_of_ble_eq_true rfl) rfl rfl (Nat.le_of_ble_eq_true rfl) (Nat.le_of_ble_eq_true rfl) rfl) rfl rfl rfl ?_
      refine qev.mono h (fun v _ _ _ h => ?_)
      obtain ⟨r3, rfl, h⟩ := h
      refine ⟨r3, rfl, ?_⟩
      refine e_next (pc' := 55) (ls' := [_, _, _, _]) rfl rfl ?_
      refine e_next (pc' := 56) rfl rfl ?_
      refine e_getI (pc' := 59) rfl (Or.inl rfl) rfl (hs.o rfl) ?_
      refine e_bipush (pc' := 61) rfl rfl kb_24 ?_
      refine e_icmp ((I1 105 16) = (nI 24)) (pc' := 64) rfl rfl e_d (fun hc => ?_) (fun hc => ?_)
      · replace h := h.1 hc
        refine e_next (pc' := 88) rfl rfl ?_
        refine e_ciV (pc' := 91) rfl (e_sV (as := []) (fun _ => rfl) (Or.inl rfl) rfl (hs.o rfl) rfl rfl (Nat.le_of_ble_eq_true rfl) (Nat.le_of_ble_eq_true rfl) rfl) rfl rfl ?_
        refine qev.mono h (fun v _ I2 _ h => ?_)
        obtain ⟨rfl, h⟩ := h
        refine ⟨rfl, ?_⟩
        exact qev_ret rfl rfl h
      · replace h := h.2 hc
        refine e_next (pc' := 65) rfl rfl ?_
        refine e_cpI (pc' := 68) rfl (e_sV (as := []) (fun _ => rfl) (Or.inl rfl) rfl (hs.o rfl) rfl rfl (Nat.le_of_ble_eq_true rfl) (Nat.le_of_ble_eq_true rfl) rfl) rfl rfl rfl ?_
        refine qev.mono h (fun v _ _ _ h => ?_)
        obtain ⟨r4, rfl, h⟩ := h
        refine ⟨r4, rfl, ?_⟩
        refine e_if (¬ r4 = 0) (pc' := 71) rfl rfl e_d (fun hc => ?_) (fun hc => ?_)
        · replace h := h.2 hc
          exact h
        · replace h := h.1 (Decidable.not_not.mp hc)
          refine e_next (pc' := 72) rfl rfl ?_
          refine e_bipush (pc' := 74) rfl rfl kb_120 ?_
          refine e_icmp (r1 = (nI 120)) (pc' := 77) rfl rfl e_d (fun hc => ?_) (fun hc => ?_)
          · replace h := h.1 hc
            exact h
          · replace h := h.2 hc
            refine e_next (pc' := 78) rfl rfl ?_
            refine e_iconst (pc' := 79) rfl rfl kc_m1 ?_
            refine e_icmp (¬ r2 = (-1)) (pc' := 82) rfl rfl e_d (fun hc => ?_) (fun hc => ?_)
            · replace h := h.2 hc
              exact h
            · replace h := h.1 (Decidable.not_not.mp hc)
              refine e_next (pc' := 83) rfl rfl ?_
              refine e_iconst (pc' := 84) rfl rfl kc_m1 ?_
              refine e_icmp (¬ r3 = (-1)) (pc' := 87) rfl rfl e_d (fun hc => ?_) (fun hc => ?_)
              · replace h := h.2 hc
                exact h
              · replace h := h.1 (Decidable.not_not.mp hc)
                refine e_next (pc' := 88) rfl rfl ?_
                refine e_ciV (pc' := 91) rfl (e_sV (as := []) (fun _ => rfl) (Or.inl rfl) rfl (hs.o rfl) rfl rfl (Nat.le_of_ble_eq_true rfl) (Nat.le_of_ble_eq_true rfl) rfl) rfl rfl ?_
                refine qev.mono h (fun v _ I3 _ h => ?_)
                obtain ⟨rfl, h⟩ := h
                refine ⟨rfl, ?_⟩
                exact qev_ret rfl rfl h
    · replace h := h.1 (Decidable.not_not.mp hc)
      refine e_next (pc' := 21) rfl rfl ?_
      refine e_ciV (pc' := 24) rfl (e_sV (as := []) (fun _ => rfl) (Or.inl rfl) rfl (hs.o rfl) rfl rfl (Nat.le_of_ble_eq_true rfl) (Nat.le_of_ble_eq_true rfl) rfl) rfl rfl ?_
      refine qev.mono h (fun v _ I4 _ h => ?_)
      obtain ⟨rfl, h⟩ := h
      refine ⟨rfl, ?_⟩
      refine e_next (pc' := 25) rfl rfl ?_
      refine e_getI (pc' := 28) rfl (Or.inl rfl) rfl (hs.o rfl) ?_
      refine e_iconst (pc' := 29) rfl rfl kc_m1 ?_
      refine e_icmp (¬ (I4 105 4) = (-1)) (pc' := 32) rfl rfl e_d (fun hc => ?_) (fun hc => ?_)
      · replace h := h.2 hc
        refine e_next (pc' := 37) rfl rfl ?_
        refine e_ciV (pc' := 40) rfl (e_sV (as := []) (fun _ => rfl) (Or.inl rfl) rfl (hs.o rfl) rfl rfl (Nat.le_of_ble_eq_true rfl) (Nat.le_of_ble_eq_true rfl) rfl) rfl rfl ?_
        refine qev.mono h (fun v _ I5 _ h => ?_)
        obtain ⟨rfl, h⟩ := h
        refine ⟨rfl, ?_⟩
        exact qev_ret rfl rfl h
      · replace h := h.1 (Decidable.not_not.mp hc)
        refine e_next (pc' := 33) rfl rfl ?_
        refine e_ciV (pc' := 36) rfl (e_sV (as := []) (fun _ => rfl) (Or.inl rfl) rfl (hs.o rfl) rfl rfl (Nat.le_of_ble_eq_true rfl) (Nat.le_of_ble_eq_true rfl) rfl) rfl rfl ?_
        refine qev.mono h (fun v _ I6 _ h => ?_)
        obtain ⟨rfl, h⟩ := h
        refine ⟨rfl, ?_⟩
        refine e_next (pc' := 37) rfl rfl ?_
        refine e_ciV (pc' := 40) rfl (e_sV (as := []) (fun _ => rfl) (Or.inl rfl) rfl (hs.o rfl) rfl rfl (Nat.le_of_ble_eq_true rfl) (Nat.le_of_ble_eq_true rfl) rfl) rfl rfl ?_
        refine qev.mono h (fun v _ I7 _ h => ?_)
        obtain ⟨rfl, h⟩ := h
        refine ⟨rfl, ?_⟩
        exact qev_ret rfl rfl h
  · replace h := h.2 hc
    exact qev_ret rfl rfl h
theorem w168_92 {d : Nat} {i1 : Int32} {i2 : Int32} {i3 : Int32} {g : qG} {I : qI} {J : qJ} {Q : qQ} (hs : qSh g)  (h : qC d 156 [.ref 105] g (qw I 105 16 ((I 105 16) + (nI 1))) J (fun v _ _ _ => ∃ r1, v = some (.int r1) ∧ ((r1 = 0 → ((i3 = (-1) → ((i2 = (-1) → qC d 162 [.ref 105, .int (nI 1), .int i2] g (qw (qw I 105 16 ((I 105 16) + (nI 1))) 105 3 (((qw I 105 16 ((I 105 16) + (nI 1))) 105 3) + (nI 1))) J (fun v _ I2 _ => v = none ∧ Q none g I2 J)) ∧ (¬ i2 = (-1) → qC d 162 [.ref 105, .int (nI 2), .int i2] g (qw (qw I 105 16 ((I 105 16) + (nI 1))) 105 3 (((qw I 105 16 ((I 105 16) + (nI 1))) 105 3) + (nI 1))) J (fun v _ I1 _ => v = none ∧ Q none g I1 J)))) ∧ (¬ i3 = (-1) → qC d 169 [.ref 105, .int ((nI 8) + i3)] g (qw (qw I 105 16 ((I 105 16) + (nI 1))) 105 3 (((qw I 105 16 ((I 105 16) + (nI 1))) 105 3) + (nI 1))) J (fun v _ I3 _ => v = none ∧ Q none g I3 J)))) ∧ (¬ r1 = 0 → qC d 159 [.ref 105, .int (nI 0), .int (nI 999), .int (nI 0)] g (qw I 105 16 ((I 105 16) + (nI 1))) J (fun v _ I4 _ => ∃ r2, v = some (.int r2) ∧ qC d 162 [.ref 105, .int (nI 0), .int r2] g I4 J (fun v _ I5 _ => v = none ∧ Q none g I5 J)))))) : qev (d + 1) 168 (92, [.ref 105, .int i1, .int i2, .int i3], [], g, I, J) Q := by
  refine e_next (pc' := 93) rfl rfl ?_
  refine e_next (pc' := 94) rfl rfl ?_
  refine e_getI (pc' := 97) rfl (Or.inl rfl) rfl (hs.o rfl) ?_
  refine e_iconst (pc' := 98) rfl rfl kc_1 ?_
  refine e_next (pc' := 99) rfl rfl ?_
  refine e_putI (pc' := 102) rfl rfl (hs.o rfl) ?_
  refine e_next (pc' := 103) rfl rfl ?_
  refine e_cpI (pc' := 106) rfl (e_sV (as := []) (fun _ => rfl) (Or.inl rfl) rfl (hs.o rfl) rfl rfl (Nat.le_of_ble_eq_true rfl) (Nat.le_of_ble_eq_true rfl) rfl) rfl rfl rfl ?_
  refine qev.mono h (fun v _ _ _ h => ?_)
  obtain ⟨r1, rfl, h⟩ := h
  refine ⟨r1, rfl, ?_⟩
  refine e_if (r1 = 0) (pc' := 109) rfl rfl e_d (fun hc => ?_) (fun hc => ?_)
  · replace h := h.1 hc
    refine e_next (pc' := 125) rfl rfl ?_
    refine e_next (pc' := 126) rfl rfl ?_
    refine e_getI (pc' := 129) rfl (Or.inl rfl) rfl (hs.o rfl) ?_
    refine e_iconst (pc' := 130) rfl rfl kc_1 ?_
    refine e_next (pc' := 131) rfl rfl ?_
    refine e_putI (pc' := 134) rfl rfl (hs.o rfl) ?_
    refine e_next (pc' := 135) rfl rfl ?_
    refine e_iconst (pc' := 136) rfl rfl kc_m1 ?_
    refine e_icmp (i3 = (-1)) (pc' := 139) rfl rfl e_d (fun hc => ?_) (fun hc => ?_)
    · replace h := h.1 hc
      refine e_next (pc' := 151) rfl rfl ?_
      refine e_next (pc' := 152) rfl rfl ?_
      refine e_iconst (pc' := 153) rfl rfl kc_m1 ?_
      refine e_icmp (¬ i2 = (-1)) (pc' := 156) rfl rfl e_d (fun hc => ?_) (fun hc => ?_)
      · replace h := h.2 hc
        refine e_iconst (pc' := 161) rfl rfl kc_2 ?_
        refine e_next (pc' := 162) rfl rfl ?_
        refine e_ciV (pc' := 165) rfl (e_sV (as := [_, _]) (fun _ => rfl) (Or.inl rfl) rfl (hs.o rfl) rfl rfl (Nat.le_of_ble_eq_true rfl) (Nat.le_of_ble_eq_true rfl) rfl) rfl rfl ?_
        refine qev.mono h (fun v _ I1 _ h => ?_)
        obtain ⟨rfl, h⟩ := h
        refine ⟨rfl, ?_⟩
        exact qev_ret rfl rfl h
      · replace h := h.1 (Decidable.not_not.mp hc)
        refine e_iconst (pc' := 157) rfl rfl kc_1 ?_
        refine e_next (pc' := 161) rfl rfl ?_
        refine e_next (pc' := 162) rfl rfl ?_
        refine e_ciV (pc' := 165) rfl (e_sV (as := [_, _]) (fun _ => rfl) (Or.inl rfl) rfl (hs.o rfl) rfl rfl (Nat.le_of_ble_eq_true rfl) (Nat.le_of_ble_eq_true rfl) rfl) rfl rfl ?_
        refine qev.mono h (fun v _ I2 _ h => ?_)
        obtain ⟨rfl, h⟩ := h
        refine ⟨rfl, ?_⟩
        exact qev_ret rfl rfl h
    · replace h := h.2 hc
      refine e_next (pc' := 140) rfl rfl ?_
      refine e_bipush (pc' := 142) rfl rfl kb_8 ?_
      refine e_next (pc' := 143) rfl rfl ?_
      refine e_next (pc' := 144) rfl rfl ?_
      refine e_ciV (pc' := 147) rfl (e_sV (as := [_]) (fun _ => rfl) (Or.inl rfl) rfl (hs.o rfl) rfl rfl (Nat.le_of_ble_eq_true rfl) (Nat.le_of_ble_eq_true rfl) rfl) rfl rfl ?_
      refine qev.mono h (fun v _ I3 _ h => ?_)
      obtain ⟨rfl, h⟩ := h
      refine ⟨rfl, ?_⟩
      refine e_next (pc' := 165) rfl rfl ?_
      exact qev_ret rfl rfl h
  · replace h := h.2 hc
    refine e_next (pc' := 110) rfl rfl ?_
    refine e_iconst (pc' := 111) rfl rfl kc_0 ?_
    refine e_next (pc' := 112) rfl rfl ?_
    refine e_iconst (pc' := 113) rfl rfl kc_0 ?_
    refine e_sipush (pc' := 116) rfl rfl ks_999 ?_
    refine e_iconst (pc' := 117) rfl rfl kc_0 ?_
    refine e_ciI (pc' := 120) rfl (e_sV (as := [_, _, _]) (fun _ => rfl) (Or.inl rfl) rfl (hs.o rfl) rfl rfl (Nat.le_of_ble_eq_true rfl) (Nat.le_of_ble_eq_true rfl) rfl) rfl rfl ?_
    refine qev.mono h (fun v _ I4 _ h => ?_)
    obtain ⟨r2, rfl, h⟩ := h
    refine ⟨r2, rfl, ?_⟩
    refine e_ciV (pc' := 123) rfl (e_sV (as := [_, _]) (fun _ => rfl) (Or.inl rfl) rfl (hs.o rfl) rfl rfl (Nat.le_of_ble_eq_true rfl) (Nat.le_of_ble_eq_true rfl) rfl) rfl rfl ?_
    refine qev.mono h (fun v _ I5 _ h => ?_)
    obtain ⟨rfl, h⟩ := h
    refine ⟨rfl, ?_⟩
    exact qev_ret rfl rfl h
theorem w169 {d : Nat} {x1 : Int32} {g : qG} {I : qI} {J : qJ} {Q : qQ} (hs : qSh g)  (h : ((x1 = (nI 13) → qC d 154 [.ref 105] g I J (fun v _ I6 _ => ∃ r2, v = some (.int r2) ∧ qC d 147 [.long (Int32.toInt64 (r2 - (nI 48))), .long (lN 2), .long (lN 9)] g I6 J (fun v _ _ _ => ∃ r3, v = some (.int r3) ∧ ((r3 = 0 → qC d 155 [.ref 105] g I6 J (fun v _ I7 _ => v = none ∧ ((x1 = (nI 14) → qC d 159 [.ref 105, .int (nI 1), .int (nI 24), .int (nI 0)] g I7 J (fun v _ I10 _ => ∃ r4, v = some (.int r4) ∧ qC d 163 [.ref 105] g I10 J (fun v _ I11 _ => v = none ∧ (((I11 105 4) = (-1) → qC d 165 [.ref 105] g I11 J (fun v _ I12 _ => v = none ∧ qev (d + 1) 169 (78, [.ref 105, .int x1, .int r4], [], g, I12, J) Q)) ∧ (¬ (I11 105 4) = (-1) → qev (d + 1) 169 (78, [.ref 105, .int x1, .int r4], [], g, I11, J) Q))))) ∧ (¬ x1 = (nI 14) → qC d 163 [.ref 105] g I7 J (fun v _ I8 _ => v = none ∧ (((I8 105 4) = (-1) → qC d 165 [.ref 105] g I8 J (fun v _ I9 _ => v = none ∧ qev (d + 1) 169 (78, [.ref 105, .int x1, .int (r2 - (nI 48))], [], g, I9, J) Q)) ∧ (¬ (I8 105 4) = (-1) → qev (d + 1) 169 (78, [.ref 105, .int x1, .int (r2 - (nI 48))], [], g, I8, J) Q))))))) ∧ (¬ r3 = 0 → ((x1 = (nI 14) → qC d 159 [.ref 105, .int (nI 1), .int (nI 24), .int (nI 0)] g (qw I6 105 3 ((I6 105 3) + (nI 1))) J (fun v _ I15 _ => ∃ r5, v = some (.int r5) ∧ qC d 163 [.ref 105] g I15 J (fun v _ I16 _ => v = none ∧ (((I16 105 4) = (-1) → qC d 165 [.ref 105] g I16 J (fun v _ I17 _ => v = none ∧ qev (d + 1) 169 (78, [.ref 105, .int x1, .int r5], [], g, I17, J) Q)) ∧ (¬ (I16 105 4) = (-1) → qev (d + 1) 169 (78, [.ref 105, .int x1, .int r5], [], g, I16, J) Q))))) ∧ (¬ x1 = (nI 14) → qC d 163 [.ref 105] g (qw I6 105 3 ((I6 105 3) + (nI 1))) J (fun v _ I13 _ => v = none ∧ (((I13 105 4) = (-1) → qC d 165 [.ref 105] g I13 J (fun v _ I14 _ => v = none ∧ qev (d + 1) 169 (78, [.ref 105, .int x1, .int (r2 - (nI 48))], [], g, I14, J) Q)) ∧ (¬ (I13 105 4) = (-1) → qev (d + 1) 169 (78, [.ref 105, .int x1, .int (r2 - (nI 48))], [], g, I13, J) Q)))))))))) ∧ (¬ x1 = (nI 13) → ((x1 = (nI 14) → qC d 159 [.ref 105, .int (nI 1), .int (nI 24), .int (nI 0)] g I J (fun v _ I3 _ => ∃ r1, v = some (.int r1) ∧ qC d 163 [.ref 105] g I3 J (fun v _ I4 _ => v = none ∧ (((I4 105 4) = (-1) → qC d 165 [.ref 105] g I4 J (fun v _ I5 _ => v = none ∧ qev (d + 1) 169 (78, [.ref 105, .int x1, .int r1], [], g, I5, J) Q)) ∧ (¬ (I4 105 4) = (-1) → qev (d + 1) 169 (78, [.ref 105, .int x1, .int r1], [], g, I4, J) Q))))) ∧ (¬ x1 = (nI 14) → qC d 163 [.ref 105] g I J (fun v _ I1 _ => v = none ∧ (((I1 105 4) = (-1) → qC d 165 [.ref 105] g I1 J (fun v _ I2 _ => v = none ∧ qev (d + 1) 169 (78, [.ref 105, .int x1, .int (nI 0)], [], g, I2, J) Q)) ∧ (¬ (I1 105 4) = (-1) → qev (d + 1) 169 (78, [.ref 105, .int x1, .int (nI 0)], [], g, I1, J) Q)))))))) : qC (d + 1) 169 [.ref 105, .int x1] g I J Q := by
  show qev (d + 1) 169 (0, [.ref 105, .int x1, qpad], [], g, I, J) Q
  refine e_iconst (pc' := 1) rfl rfl kc_0 ?_
  refine e_next (pc' := 2) (ls' := [_, _, _]) rfl rfl ?_
  refine e_next (pc' := 3) rfl rfl ?_
  refine e_bipush (pc' := 5) rfl rfl kb_13 ?_
  refine e_icmp (¬ x1 = (nI 13)) (pc' := 8) rfl rfl e_d (fun hc => ?_) (fun hc => ?_)
  · replace h := h.2 hc
    refine e_next (pc' := 48) rfl rfl ?_
    refine e_bipush (pc' := 50) rfl rfl kb_14 ?_
    refine e_icmp (¬ x1 = (nI 14)) (pc' := 53) rfl rfl e_d (fun hc => ?_) (fun hc => ?_)
    · replace h := h.2 hc
      refine e_next (pc' := 63) rfl rfl ?_
      refine e_ciV (pc' := 66) rfl (e_sV (as := []) (fun _ => rfl) (Or.inl rfl) rfl (hs.o rfl) rfl rfl (Nat.le_of_ble_eq_true rfl) (Nat.le_of_ble_eq_true rfl) rfl) rfl rfl ?_
      refine qev.mono h (fun v _ I1 _ h => ?_)
      obtain ⟨rfl, h⟩ := h
      refine ⟨rfl, ?_⟩
      refine e_next (pc' := 67) rfl rfl ?_
      refine e_getI (pc' := 70) rfl (Or.inl rfl) rfl (hs.o rfl) ?_
      refine e_iconst (pc' := 71) rfl rfl kc_m1 ?_
      refine e_icmp (¬ (I1 105 4) = (-1)) (pc' := 74) rfl rfl e_d (fun hc => ?_) (fun hc => ?_)
      · replace h := h.2 hc
        exact h
      · replace h := h.1 (Decidable.not_not.mp hc)
        refine e_next (pc' := 75) rfl rfl ?_
        refine e_ciV (pc' := 78) rfl (e_sV (as := []) (fun _ => rfl) (Or.inl rfl) rfl (hs.o rfl) rfl rfl (Nat.le_of_ble_eq_true rfl) (Nat.le_of_ble_eq_true rfl) rfl) rfl rfl ?_
        refine qev.mono h (fun v _ I2 _ h => ?_)
        obtain ⟨rfl, h⟩ := h
        refine ⟨rfl, ?_⟩
        exact h
    · replace h := h.1 (Decidable.not_not.mp hc)
      refine e_next (pc' := 54) rfl rfl ?_
      refine e_iconst (pc' := 55) rfl rfl kc_1 ?_
      refine e_bipush (pc' := 57) rfl rfl kb_24 ?_
      refine e_iconst (pc' := 58) rfl rfl kc_0 ?_
      refine e_ciI (pc' := 61) rfl (e_sV (as := [_, _, _]) (fun _ => rfl) (Or.inl rfl) rfl (hs.o rfl) rfl rfl (Nat.le_of_ble_eq_true rfl) (Nat.le_of_ble_eq_true rfl) rfl) rfl rfl ?_
      refine qev.mono h (fun v _ I3 _ h => ?_)
      obtain ⟨r1, rfl, h⟩ := h
      refine ⟨r1, rfl, ?_⟩
      refine e_next (pc' := 62) (ls' := [_, _, _]) rfl rfl ?_
      refine e_next (pc' := 63) rfl rfl ?_
      refine e_ciV (pc' := 66) rfl (e_sV (as := []) (fun _ => rfl) (Or.inl rfl) rfl (hs.o rfl) rfl rfl (Nat.le_of_ble_eq_true rfl) (Nat.le_of_ble_eq_true rfl) rfl) rfl rfl ?_
      refine qev.mono h (fun v _ I4 _ h => ?_)
      obtain ⟨rfl, h⟩ := h
      refine ⟨rfl, ?_⟩
      refine e_next (pc' := 67) rfl rfl ?_
      refine e_getI (pc' := 70) rfl (Or.inl rfl) rfl (hs.o rfl) ?_
      refine e_iconst (pc' := 71) rfl rfl kc_m1 ?_
      refine e_icmp (¬ (I4 105 4) = (-1)) (pc' := 74) rfl rfl e_d (fun hc => ?_) (fun hc => ?_)
      · replace h := h.2 hc
        exact h
      · replace h := h.1 (Decidable.not_not.mp hc)
        refine e_next (pc' := 75) rfl rfl ?_
        refine e_ciV (pc' := 78) rfl (e_sV (as := []) (fun _ => rfl) (Or.inl rfl) rfl (hs.o rfl) rfl rfl (Nat.le_of_ble_eq_true rfl) (Nat.le_of_ble_eq_true rfl) rfl) rfl rfl ?_
        refine qev.mono h (fun v _ I5 _ h => ?_)
        obtain ⟨rfl, h⟩ := h
        refine ⟨rfl, ?_⟩
        exact h
  · replace h := h.1 (Decidable.not_not.mp hc)
    refine e_next (pc' := 9) rfl rfl ?_
    refine e_ciI (pc' := 12) rfl (e_sV (as := []) (fun _ => rfl) (Or.inl rfl) rfl (hs.o rfl) rfl rfl (Nat.le_of_ble_eq_true rfl) (Nat.le_of_ble_eq_true rfl) rfl) rfl rfl ?_
    refine qev.mono h (fun v _ I6 _ h => ?_)
    obtain ⟨r2, rfl, h⟩ := h
    refine ⟨r2, rfl, ?_⟩
    refine e_bipush (pc' := 14) rfl rfl kb_48 ?_
    refine e_next (pc' := 15) rfl rfl ?_
    refine e_next (pc' := 16) (ls' := [_, _, _]) rfl rfl ?_
    refine e_next (pc' := 17) rfl rfl ?_
    refine e_next (pc' := 18) rfl rfl ?_
    refine e_ldc2 (pc' := 21) rfl rfl kN_2 ?_
    refine e_ldc2 (pc' := 24) rfl rfl kN_9 ?_
    refine e_cpI (pc' := 27) rfl (e_sS (as := [_, _, _]) (fun _ => rfl) rfl (Nat.le_of_ble_eq_true rfl) rfl rfl (Nat.le_of_ble_eq_true rfl) (Nat.le_of_ble_eq_true rfl) rfl) rfl rfl rfl ?_
    refine qev.mono h (fun v _ _ _ h => ?_)
    obtain ⟨r3, rfl, h⟩ := h
    refine ⟨r3, rfl, ?_⟩
    refine e_if (r3 = 0) (pc' := 30) rfl rfl e_d (fun hc => ?_) (fun hc => ?_)
    · replace h := h.1 hc
      refine e_next (pc' := 44) rfl rfl ?_
      refine e_ciV (pc' := 47) rfl (e_sV (as := []) (fun _ => rfl) (Or.inl rfl) rfl (hs.o rfl) rfl rfl (Nat.le_of_ble_eq_true rfl) (Nat.le_of_ble_eq_true rfl) rfl) rfl rfl ?_
      refine qev.mono h (fun v _ I7 _ h => ?_)
      obtain ⟨rfl, h⟩ := h
      refine ⟨rfl, ?_⟩
      refine e_next (pc' := 48) rfl rfl ?_
      refine e_bipush (pc' := 50) rfl rfl kb_14 ?_
      refine e_icmp (¬ x1 = (nI 14)) (pc' := 53) rfl rfl e_d (fun hc => ?_) (fun hc => ?_)
      · replace h := h.2 hc
        refine e_next (pc' := 63) rfl rfl ?_
        refine e_ciV (pc' := 66) rfl (e_sV (as := []) (fun _ => rfl) (Or.inl rfl) rfl (hs.o rfl) rfl rfl (Nat.le_of_ble_eq_true rfl) (Nat.le_of_ble_eq_true rfl) rfl) rfl rfl ?_
        refine qev.mono h (fun v _ I8 _ h => ?_)
        obtain ⟨rfl, h⟩ := h
        refine ⟨rfl, ?_⟩
        refine e_next (pc' := 67) rfl rfl ?_
        refine e_getI (pc' := 70) rfl (Or.inl rfl) rfl (hs.o rfl) ?_
        refine e_iconst (pc' := 71) rfl rfl kc_m1 ?_
        refine e_icmp (¬ (I8 105 4) = (-1)) (pc' := 74) rfl rfl e_d (fun hc => ?_) (fun hc => ?_)
        · replace h := h.2 hc
          exact h
        · replace h := h.1 (Decidable.not_not.mp hc)
          refine e_next (pc' := 75) rfl rfl ?_
          refine e_ciV (pc' := 78) rfl (e_sV (as := []) (fun _ => rfl) (Or.inl rfl) rfl (hs.o rfl) rfl rfl (Nat.le_of_ble_eq_true rfl) (Nat.le_of_ble_eq_true rfl) rfl) rfl rfl ?_
          refine qev.mono h (fun v _ I9 _ h => ?_)
          obtain ⟨rfl, h⟩ := h
          refine ⟨rfl, ?_⟩
          exact h
      · replace h := h.1 (Decidable.not_not.mp hc)
        refine e_next (pc' := 54) rfl rfl ?_
        refine e_iconst (pc' := 55) rfl rfl kc_1 ?_
        refine e_bipush (pc' := 57) rfl rfl kb_24 ?_
        refine e_iconst (pc' := 58) rfl rfl kc_0 ?_
        refine e_ciI (pc' := 61) rfl (e_sV (as := [_, _, _]) (fun _ => rfl) (Or.inl rfl) rfl (hs.o rfl) rfl rfl (Nat.le_of_ble_eq_true rfl) (Nat.le_of_ble_eq_true rfl) rfl) rfl rfl ?_
        refine qev.mono h (fun v _ I10 _ h => ?_)
        obtain ⟨r4, rfl, h⟩ := h
        refine ⟨r4, rfl, ?_⟩
        refine e_next (pc' := 62) (ls' := [_, _, _]) rfl rfl ?_
        refine e_next (pc' := 63) rfl rfl ?_
        refine e_ciV (pc' := 66) rfl (e_sV (as := []) (fun _ => rfl) (Or.inl rfl) rfl (hs.o rfl) rfl rfl (Nat.le_of_ble_eq_true rfl) (Nat.le_of_ble_eq_true rfl) rfl) rfl rfl ?_
        refine qev.mono h (fun v _ I11 _ h => ?_)
        obtain ⟨rfl, h⟩ := h
        refine ⟨rfl, ?_⟩
        refine e_next (pc' := 67) rfl rfl ?_
        refine e_getI (pc' := 70) rfl (Or.inl rfl) rfl (hs.o rfl) ?_
        refine e_iconst (pc' := 71) rfl rfl kc_m1 ?_
        refine e_icmp (¬ (I11 105 4) = (-1)) (pc' := 74) rfl rfl e_d (fun hc => ?_) (fun hc => ?_)
        · replace h := h.2 hc
          exact h
        · replace h := h.1 (Decidable.not_not.mp hc)
          refine e_next (pc' := 75) rfl rfl ?_
          refine e_ciV (pc' := 78) rfl (e_sV (as := []) (fun _ => rfl) (Or.inl rfl) rfl (hs.o rfl) rfl rfl (Nat.le_of_ble_eq_true rfl) (Nat.le_of_ble_eq_true rfl) rfl) rfl rfl ?_
          refine qev.mono h (fun v _ I12 _ h => ?_)
          obtain ⟨rfl, h⟩ := h
          refine ⟨rfl, ?_⟩
          exact h
    · replace h := h.2 hc
      refine e_next (pc' := 31) rfl rfl ?_
      refine e_next (pc' := 32) rfl rfl ?_
      refine e_getI (pc' := 35) rfl (Or.inl rfl) rfl (hs.o rfl) ?_
      refine e_iconst (pc' := 36) rfl rfl kc_1 ?_
      refine e_next (pc' := 37) rfl rfl ?_
      refine e_putI (pc' := 40) rfl rfl (hs.o rfl) ?_
      refine e_next (pc' := 47) rfl rfl ?_
      refine e_next (pc' := 48) rfl rfl ?_
      refine e_bipush (pc' := 50) rfl rfl kb_14 ?_
      refine e_icmp (¬ x1 = (nI 14)) (pc' := 53) rfl rfl e_d (fun hc => ?_) (fun hc => ?_)
      · replace h := h.2 hc
        refine e_next (pc' := 63) rfl rfl ?_
        refine e_ciV (pc' := 66) rfl (e_sV (as := []) (fun _ => rfl) (Or.inl rfl) rfl (hs.o rfl) rfl rfl (Nat.le_of_ble_eq_true rfl) (Nat.le_of_ble_eq_true rfl) rfl) rfl rfl ?_
        refine qev.mono h (fun v _ I13 _ h => ?_)
        obtain ⟨rfl, h⟩ := h
        refine ⟨rfl, ?_⟩
        refine e_next (pc' := 67) rfl rfl ?_
        refine e_getI (pc' := 70) rfl (Or.inl rfl) rfl (hs.o rfl) ?_
        refine e_iconst (pc' := 71) rfl rfl kc_m1 ?_
        refine e_icmp (¬ (I13 105 4) = (-1)) (pc' := 74) rfl rfl e_d (fun hc => ?_) (fun hc => ?_)
        · replace h := h.2 hc
          exact h
        · replace h := h.1 (Decidable.not_not.mp hc)
          refine e_next (pc' := 75) rfl rfl ?_
          refine e_ciV (pc' := 78) rfl (e_sV (as := []) (fun _ => rfl) (Or.inl rfl) rfl (hs.o rfl) rfl rfl (Nat.le_of_ble_eq_true rfl) (Nat.le_of_ble_eq_true rfl) rfl) rfl rfl ?_
          refine qev.mono h (fun v _ I14 _ h => ?_)
          obtain ⟨rfl, h⟩ := h
          refine ⟨rfl, ?_⟩
          exact h
      · replace h := h.1 (Decidable.not_not.mp hc)
        refine e_next (pc' := 54) rfl rfl ?_
        refine e_iconst (pc' := 55) rfl rfl kc_1 ?_
        refine e_bipush (pc' := 57) rfl rfl kb_24 ?_
        refine e_iconst (pc' := 58) rfl rfl kc_0 ?_
        refine e_ciI (pc' := 61) rfl (e_sV (as := [_, _, _]) (fun _ => rfl) (Or.inl rfl) rfl (hs.o rfl) rfl rfl (Nat.le_of_ble_eq_true rfl) (Nat.le_of_ble_eq_true rfl) rfl) rfl rfl ?_
        refine qev.mono h (fun v _ I15 _ h => ?_)
        obtain ⟨r5, rfl, h⟩ := h
        refine ⟨r5, rfl, ?_⟩
        refine e_next (pc' := 62) (ls' := [_, _, _]) rfl rfl ?_
        refine e_next (pc' := 63) rfl rfl ?_
        refine e_ciV (pc' := 66) rfl (e_sV (as := []) (fun _ => rfl) (Or.inl rfl) rfl (hs.o rfl) rfl rfl (Nat.le_of_ble_eq_true rfl) (Nat.le_of_ble_eq_true rfl) rfl) rfl rfl ?_
        refine qev.mono h (fun v _ I16 _ h => ?_)
        obtain ⟨rfl, h⟩ := h
        refine ⟨rfl, ?_⟩
        refine e_next (pc' := 67) rfl rfl ?_
        refine e_getI (pc' := 70) rfl (Or.inl rfl) rfl (hs.o rfl) ?_
        refine e_iconst (pc' := 71) rfl rfl kc_m1 ?_
        refine e_icmp (¬ (I16 105 4) = (-1)) (pc' := 74) rfl rfl e_d (fun hc => ?_) (fun hc => ?_)
        · replace h := h.2 hc
          exact h
        · replace h := h.1 (Decidable.not_not.mp hc)
          refine e_next (pc' := 75) rfl rfl ?_
          refine e_ciV (pc' := 78) rfl (e_sV (as := []) (fun _ => rfl) (Or.inl rfl) rfl (hs.o rfl) rfl rfl (Nat.le_of_ble_eq_true rfl) (Nat.le_of_ble_eq_true rfl) rfl) rfl rfl ?_
          refine qev.mono h (fun v _ I17 _ h => ?_)
          obtain ⟨rfl, h⟩ := h
          refine ⟨rfl, ?_⟩
          exact h
theorem w169_78 {d : Nat} {i1 : Int32} {i2 : Int32} {g : qG} {I : qI} {J : qJ} {Q : qQ} (hs : qSh g)  (h : ((i1 = (nI 15) → qC d 160 [.ref 105, .int (nI 44)] g I J (fun v _ I6 _ => v = none ∧ (((I6 105 4) = (-1) → qC d 165 [.ref 105] g I6 J (fun v _ I12 _ => v = none ∧ ((i1 = (nI 16) → qC d 170 [.ref 105] g I12 J (fun v _ I16 _ => v = none ∧ qC d 164 [.ref 105] g I16 J (fun v _ I17 _ => v = none ∧ Q none g I17 J))) ∧ (¬ i1 = (nI 16) → (((I12 105 4) = (-1) → qC d 162 [.ref 105, .int i1, .int i2] g I12 J (fun v _ I14 _ => v = none ∧ qC d 164 [.ref 105] g I14 J (fun v _ I15 _ => v = none ∧ Q none g I15 J))) ∧ (¬ (I12 105 4) = (-1) → qC d 164 [.ref 105] g I12 J (fun v _ I13 _ => v = none ∧ Q none g I13 J))))))) ∧ (¬ (I6 105 4) = (-1) → ((i1 = (nI 16) → qC d 170 [.ref 105] g I6 J (fun v _ I10 _ => v = none ∧ qC d 164 [.ref 105] g I10 J (fun v _ I11 _ => v = none ∧ Q none g I11 J))) ∧ (¬ i1 = (nI 16) → (((I6 105 4) = (-1) → qC d 162 [.ref 105, .int i1, .int i2] g I6 J (fun v _ I8 _ => v = none ∧ qC d 164 [.ref 105] g I8 J (fun v _ I9 _ => v = none ∧ Q none g I9 J))) ∧ (¬ (I6 105 4) = (-1) → qC d 164 [.ref 105] g I6 J (fun v _ I7 _ => v = none ∧ Q none g I7 J))))))))) ∧ (¬ i1 = (nI 15) → ((i1 = (nI 16) → qC d 170 [.ref 105] g I J (fun v _ I4 _ => v = none ∧ qC d 164 [.ref 105] g I4 J (fun v _ I5 _ => v = none ∧ Q none g I5 J))) ∧ (¬ i1 = (nI 16) → (((I 105 4) = (-1) → qC d 162 [.ref 105, .int i1, .int i2] g I J (fun v _ I2 _ => v = none ∧ qC d 164 [.ref 105] g I2 J (fun v _ I3 _ => v = none ∧ Q none g I3 J))) ∧ (¬ (I 105 4) = (-1) → qC d 164 [.ref 105] g I J (fun v _ I1 _ => v = none ∧ Q none g I1 J)))))))) : qev (d + 1) 169 (78, [.ref 105, .int i1, .int i2], [], g, I, J) Q := by
  refine e_next (pc' := 79) rfl rfl ?_
  refine e_bipush (pc' := 81) rfl rfl kb_15 ?_
  refine e_icmp (¬ i1 = (nI 15)) (pc' := 84) rfl rfl e_d (fun hc => ?_) (fun hc => ?_)
  · replace h := h.2 hc
    refine e_next (pc' := 103) rfl rfl ?_
    refine e_bipush (pc' := 105) rfl rfl kb_16 ?_
    refine e_icmp (¬ i1 = (nI 16)) (pc' := 108) rfl rfl e_d (fun hc => ?_) (fun hc => ?_)
    · replace h := h.2 hc
      refine e_next (pc' := 116) rfl rfl ?_
      refine e_getI (pc' := 119) rfl (Or.inl rfl) rfl (hs.o rfl) ?_
      refine e_iconst (pc' := 120) rfl rfl kc_m1 ?_
      refine e_icmp (¬ (I 105 4) = (-1)) (pc' := 123) rfl rfl e_d (fun hc => ?_) (fun hc => ?_)
      · replace h := h.2 hc
        refine e_next (pc' := 130) rfl rfl ?_
        refine e_ciV (pc' := 133) rfl (e_sV (as := []) (fun _ => rfl) (Or.inl rfl) rfl (hs.o rfl) rfl rfl (Nat.le_of_ble_eq_true rfl) (Nat.le_of_ble_eq_true rfl) rfl) rfl rfl ?_
        refine qev.mono h (fun v _ I1 _ h => ?_)
        obtain ⟨rfl, h⟩ := h
        refine ⟨rfl, ?_⟩
        exact qev_ret rfl rfl h
      · replace h := h.1 (Decidable.not_not.mp hc)
        refine e_next (pc' := 124) rfl rfl ?_
        refine e_next (pc' := 125) rfl rfl ?_
        refine e_next (pc' := 126) rfl rfl ?_
        refine e_ciV (pc' := 129) rfl (e_sV (as := [_, _]) (fun _ => rfl) (Or.inl rfl) rfl (hs.o rfl) rfl rfl (Nat.le_of_ble_eq_true rfl) (Nat.le_of_ble_eq_true rfl) rfl) rfl rfl ?_
        refine qev.mono h (fun v _ I2 _ h => ?_)
        obtain ⟨rfl, h⟩ := h
        refine ⟨rfl, ?_⟩
        refine e_next (pc' := 130) rfl rfl ?_
        refine e_ciV (pc' := 133) rfl (e_sV (as := []) (fun _ => rfl) (Or.inl rfl) rfl (hs.o rfl) rfl rfl (Nat.le_of_ble_eq_true rfl) (Nat.le_of_ble_eq_true rfl) rfl) rfl rfl ?_
        refine qev.mono h (fun v _ I3 _ h => ?_)
        obtain ⟨rfl, h⟩ := h
        refine ⟨rfl, ?_⟩
        exact qev_ret rfl rfl h
    · replace h := h.1 (Decidable.not_not.mp hc)
      refine e_next (pc' := 109) rfl rfl ?_
      refine e_ciV (pc' := 112) rfl (e_sV (as := []) (fun _ => rfl) (Or.inl rfl) rfl (hs.o rfl) rfl rfl (Nat.le_of_ble_eq_true rfl) (Nat.le_of_ble_eq_true rfl) rfl) rfl rfl ?_
      refine qev.mono h (fun v _ I4 _ h => ?_)
      obtain ⟨rfl, h⟩ := h
      refine ⟨rfl, ?_⟩
      refine e_next (pc' := 129) rfl rfl ?_
      refine e_next (pc' := 130) rfl rfl ?_
      refine e_ciV (pc' := 133) rfl (e_sV (as := []) (fun _ => rfl) (Or.inl rfl) rfl (hs.o rfl) rfl rfl (Nat.le_of_ble_eq_true rfl) (Nat.le_of_ble_eq_true rfl) rfl) rfl rfl ?_
      refine qev.mono h (fun v _ I5 _ h => ?_)
      obtain ⟨rfl, h⟩ := h
      refine ⟨rfl, ?_⟩
      exact qev_ret rfl rfl h
  · replace h := h.1 (Decidable.not_not.mp hc)
    refine e_next (pc' := 85) rfl rfl ?_
    refine e_bipush (pc' := 87) rfl rfl kb_44 ?_
    refine e_ciV (pc' := 90) rfl (e_sV (as := [_]) (fun _ => rfl) (Or.inl rfl) rfl (hs.o rfl) rfl rfl (Nat.le_of_ble_eq_true rfl) (Nat.le_of_ble_eq_true rfl) rfl) rfl rfl ?_
    refine qev.mono h (fun v _ I6 _ h => ?_)
    obtain ⟨rfl, h⟩ := h
    refine ⟨rfl, ?_⟩
    refine e_next (pc' := 91) rfl rfl ?_
    refine e_getI (pc' := 94) rfl (Or.inl rfl) rfl (hs.o rfl) ?_
    refine e_iconst (pc' := 95) rfl rfl kc_m1 ?_
    refine e_icmp (¬ (I6 105 4) = (-1)) (pc' := 98) rfl rfl e_d (fun hc => ?_) (fun hc => ?_)
    · replace h := h.2 hc
      refine e_next (pc' := 103) rfl rfl ?_
      refine e_bipush (pc' := 105) rfl rfl kb_16 ?_
      refine e_icmp (¬ i1 = (nI 16)) (pc' := 108) rfl rfl e_d (fun hc => ?_) (fun hc => ?_)
      · replace h := h.2 hc
        refine e_next (pc' := 116) rfl rfl ?_
        refine e_getI (pc' := 119) rfl (Or.inl rfl) rfl (hs.o rfl) ?_
        refine e_iconst (pc' := 120) rfl rfl kc_m1 ?_
        refine e_icmp (¬ (I6 105 4) = (-1)) (pc' := 123) rfl rfl e_d (fun hc => ?_) (fun hc => ?_)
        · replace h := h.2 hc
          refine e_next (pc' := 130) rfl rfl ?_
          refine e_ciV (pc' := 133) rfl (e_sV (as := []) (fun _ => rfl) (Or.inl rfl) rfl (hs.o rfl) rfl rfl (Nat.le_of_ble_eq_true rfl) (Nat.le_of_ble_eq_true rfl) rfl) rfl rfl ?_
          refine qev.mono h (fun v _ I7 _ h => ?_)
          obtain ⟨rfl, h⟩ := h
          refine ⟨rfl, ?_⟩
          exact qev_ret rfl rfl h
        · replace h := h.1 (Decidable.not_not.mp hc)
          refine e_next (pc' := 124) rfl rfl ?_
          refine e_next (pc' := 125) rfl rfl ?_
          refine e_next (pc' := 126) rfl rfl ?_
          refine e_ciV (pc' := 129) rfl (e_sV (as := [_, _]) (fun _ => rfl) (Or.inl rfl) rfl (hs.o rfl) rfl rfl (Nat.le_of_ble_eq_true rfl) (Nat.le_of_ble_eq_true rfl) rfl) rfl rfl ?_
          refine qev.mono h (fun v _ I8 _ h => ?_)
          obtain ⟨rfl, h⟩ := h
          refine ⟨rfl, ?_⟩
          refine e_next (pc' := 130) rfl rfl ?_
          refine e_ciV (pc' := 133) rfl (e_sV (as := []) (fun _ => rfl) (Or.inl rfl) rfl (hs.o rfl) rfl rfl (Nat.le_of_ble_eq_true rfl) (Nat.le_of_ble_eq_true rfl) rfl) rfl rfl ?_
          refine qev.mono h (fun v _ I9 _ h => ?_)
          obtain ⟨rfl, h⟩ := h
          refine ⟨rfl, ?_⟩
          exact qev_ret rfl rfl h
      · replace h := h.1 (Decidable.not_not.mp hc)
        refine e_next (pc' := 109) rfl rfl ?_
        refine e_ciV (pc' := 112) rfl (e_sV (as := []) (fun _ => rfl) (Or.inl rfl) rfl (hs.o rfl) rfl rfl (Nat.le_of_ble_eq_true rfl) (Nat.le_of_ble_eq_true rfl) rfl) rfl rfl ?_
        refine qev.mono h (fun v _ I10 _ h => ?_)
        obtain ⟨rfl, h⟩ := h
        refine ⟨rfl, ?_⟩
        refine e_next (pc' := 129) rfl rfl ?_
        refine e_next (pc' := 130) rfl rfl ?_
        refine e_ciV (pc' := 133) rfl (e_sV (as := []) (fun _ => rfl) (Or.inl rfl) rfl (hs.o rfl) rfl rfl (Nat.le_of_ble_eq_true rfl) (Nat.le_of_ble_eq_true rfl) rfl) rfl rfl ?_
        refine qev.mono h (fun v _ I11 _ h => ?_)
        obtain ⟨rfl, h⟩ := h
        refine ⟨rfl, ?_⟩
        exact qev_ret rfl rfl h
    · replace h := h.1 (Decidable.not_not.mp hc)
      refine e_next (pc' := 99) rfl rfl ?_
      refine e_ciV (pc' := 102) rfl (e_sV (as := []) (fun _ => rfl) (Or.inl rfl) rfl (hs.o rfl) rfl rfl (Nat.le_of_ble_eq_true rfl) (Nat.le_of_ble_eq_true rfl) rfl) rfl rfl ?_
      refine qev.mono h (fun v _ I12 _ h => ?_)
      obtain ⟨rfl, h⟩ := h
      refine ⟨rfl, ?_⟩
      refine e_next (pc' := 103) rfl rfl ?_
      refine e_bipush (pc' := 105) rfl rfl kb_16 ?_
      refine e_icmp (¬ i1 = (nI 16)) (pc' := 108) rfl rfl e_d (fun hc => ?_) (fun hc => ?_)
      · replace h := h.2 hc
        refine e_next (pc' := 116) rfl rfl ?_
        refine e_getI (pc' := 119) rfl (Or.inl rfl) rfl (hs.o rfl) ?_
        refine e_iconst (pc' := 120) rfl rfl kc_m1 ?_
        refine e_icmp (¬ (I12 105 4) = (-1)) (pc' := 123) rfl rfl e_d (fun hc => ?_) (fun hc => ?_)
        · replace h := h.2 hc
          refine e_next (pc' := 130) rfl rfl ?_
          refine e_ciV (pc' := 133) rfl (e_sV (as := []) (fun _ => rfl) (Or.inl rfl) rfl (hs.o rfl) rfl rfl (Nat.le_of_ble_eq_true rfl) (Nat.le_of_ble_eq_true rfl) rfl) rfl rfl ?_
          refine qev.mono h (fun v _ I13 _ h => ?_)
          obtain ⟨rfl, h⟩ := h
          refine ⟨rfl, ?_⟩
          exact qev_ret rfl rfl h
        · replace h := h.1 (Decidable.not_not.mp hc)
          refine e_next (pc' := 124) rfl rfl ?_
          refine e_next (pc' := 125) rfl rfl ?_
          refine e_next (pc' := 126) rfl rfl ?_
          refine e_ciV (pc' := 129) rfl (e_sV (as := [_, _]) (fun _ => rfl) (Or.inl rfl) rfl (hs.o rfl) rfl rfl (Nat.le_of_ble_eq_true rfl) (Nat.le_of_ble_eq_true rfl) rfl) rfl rfl ?_
          refine qev.mono h (fun v _ I14 _ h => ?_)
          obtain ⟨rfl, h⟩ := h
          refine ⟨rfl, ?_⟩
          refine e_next (pc' := 130) rfl rfl ?_
          refine e_ciV (pc' := 133) rfl (e_sV (as := []) (fun _ => rfl) (Or.inl rfl) rfl (hs.o rfl) rfl rfl (Nat.le_of_ble_eq_true rfl) (Nat.le_of_ble_eq_true rfl) rfl) rfl rfl ?_
          refine qev.mono h (fun v _ I15 _ h => ?_)
          obtain ⟨rfl, h⟩ := h
          refine ⟨rfl, ?_⟩
          exact qev_ret rfl rfl h
      · replace h := h.1 (Decidable.not_not.mp hc)
        refine e_next (pc' := 109) rfl rfl ?_
        refine e_ciV (pc' := 112) rfl (e_sV (as := []) (fun _ => rfl) (Or.inl rfl) rfl (hs.o rfl) rfl rfl (Nat.le_of_ble_eq_true rfl) (Nat.le_of_ble_eq_true rfl) rfl) rfl rfl ?_
        refine qev.mono h (fun v _ I16 _ h => ?_)
        obtain ⟨rfl, h⟩ := h
        refine ⟨rfl, ?_⟩
        refine e_next (pc' := 129) rfl rfl ?_
        refine e_next (pc' := 130) rfl rfl ?_
        refine e_ciV (pc' := 133) rfl (e_sV (as := []) (fun _ => rfl) (Or.inl rfl) rfl (hs.o rfl) rfl rfl (Nat.le_of_ble_eq_true rfl) (Nat.le_of_ble_eq_true rfl) rfl) rfl rfl ?_
        refine qev.mono h (fun v _ I17 _ h => ?_)
        obtain ⟨rfl, h⟩ := h
        refine ⟨rfl, ?_⟩
        exact qev_ret rfl rfl h
theorem w170 {d : Nat}  {g : qG} {I : qI} {J : qJ} {Q : qQ}  (h : qev (d + 1) 170 (2, [.ref 105, .int (nI 1)], [], g, I, J) Q) : qC (d + 1) 170 [.ref 105] g I J Q := by
  show qev (d + 1) 170 (0, [.ref 105, qpad], [], g, I, J) Q
  refine e_iconst (pc' := 1) rfl rfl kc_1 ?_
  refine e_next (pc' := 2) (ls' := [_, _]) rfl rfl ?_
  exact h
theorem w170_2 {d : Nat} {i1 : Int32} {g : qG} {I : qI} {J : qJ} {Q : qQ} (hs : qSh g)  (h : (((I 105 4) = (-1) → ((i1 = (nI 1) → qev (d + 1) 170 (30, [.ref 105, .int i1], [], g, I, J) Q) ∧ (¬ i1 = (nI 1) → (((nI 6) ≤ i1 → Q none g I J) ∧ (¬ (nI 6) ≤ i1 → qC d 154 [.ref 105] g I J (fun v _ I1 _ => ∃ r1, v = some (.int r1) ∧ ((r1 = (nI 44) → qev (d + 1) 170 (30, [.ref 105, .int i1], [], g, I1, J) Q) ∧ (¬ r1 = (nI 44) → Q none g I1 J)))))))) ∧ (¬ (I 105 4) = (-1) → Q none g I J))) : qev (d + 1) 170 (2, [.ref 105, .int i1], [], g, I, J) Q := by
  refine e_next (pc' := 3) rfl rfl ?_
  refine e_getI (pc' := 6) rfl (Or.inl rfl) rfl (hs.o rfl) ?_
  refine e_iconst (pc' := 7) rfl rfl kc_m1 ?_
  refine e_icmp (¬ (I 105 4) = (-1)) (pc' := 10) rfl rfl e_d (fun hc => ?_) (fun hc => ?_)
  · replace h := h.2 hc
    exact qev_ret rfl rfl h
  · replace h := h.1 (Decidable.not_not.mp hc)
    refine e_next (pc' := 11) rfl rfl ?_
    refine e_iconst (pc' := 12) rfl rfl kc_1 ?_
    refine e_icmp (i1 = (nI 1)) (pc' := 15) rfl rfl e_d (fun hc => ?_) (fun hc => ?_)
    · replace h := h.1 hc
      exact h
    · replace h := h.2 hc
      refine e_next (pc' := 16) rfl rfl ?_
      refine e_bipush (pc' := 18) rfl rfl kb_6 ?_
      refine e_icmp ((nI 6) ≤ i1) (pc' := 21) rfl rfl e_d (fun hc => ?_) (fun hc => ?_)
      · replace h := h.1 hc
        exact qev_ret rfl rfl h
      · replace h := h.2 hc
        refine e_next (pc' := 22) rfl rfl ?_
        refine e_ciI (pc' := 25) rfl (e_sV (as := []) (fun _ => rfl) (Or.inl rfl) rfl (hs.o rfl) rfl rfl (Nat.le_of_ble_eq_true rfl) (Nat.le_of_ble_eq_true rfl) rfl) rfl rfl ?_
        refine qev.mono h (fun v _ I1 _ h => ?_)
        obtain ⟨r1, rfl, h⟩ := h
        refine ⟨r1, rfl, ?_⟩
        refine e_bipush (pc' := 27) rfl rfl kb_44 ?_
        refine e_icmp (¬ r1 = (nI 44)) (pc' := 30) rfl rfl e_d (fun hc => ?_) (fun hc => ?_)
        · replace h := h.2 hc
          exact qev_ret rfl rfl h
        · replace h := h.1 (Decidable.not_not.mp hc)
          exact h
theorem w170_30 {d : Nat} {i1 : Int32} {g : qG} {I : qI} {J : qJ} {Q : qQ} (hs : qSh g)  (h : qC d 160 [.ref 105, .int (nI 44)] g I J (fun v _ I1 _ => v = none ∧ (((I1 105 4) = (-1) → qC d 165 [.ref 105] g I1 J (fun v _ I3 _ => v = none ∧ (((I3 105 4) = (-1) → qC d 162 [.ref 105, .int (nI 16), .int (nI 0)] g I3 J (fun v _ I4 _ => v = none ∧ qev (d + 1) 170 (2, [.ref 105, .int (i1 + (nI 1))], [], g, I4, J) Q)) ∧ (¬ (I3 105 4) = (-1) → qev (d + 1) 170 (2, [.ref 105, .int (i1 + (nI 1))], [], g, I3, J) Q)))) ∧ (¬ (I1 105 4) = (-1) → (((I1 105 4) = (-1) → qC d 162 [.ref 105, .int (nI 16), .int (nI 0)] g I1 J (fun v _ I2 _ => v = none ∧ qev (d + 1) 170 (2, [.ref 105, .int (i1 + (nI 1))], [], g, I2, J) Q)) ∧ (¬ (I1 105 4) = (-1) → qev (d + 1) 170 (2, [.ref 105, .int (i1 + (nI 1))], [], g, I1, J) Q)))))) : qev (d + 1) 170 (30, [.ref 105, .int i1], [], g, I, J) Q := by
  refine e_next (pc' := 31) rfl rfl ?_
  refine e_bipush (pc' := 33) rfl rfl kb_44 ?_
  refine e_ciV (pc' := 36) rfl (e_sV (as := [_]) (fun _ => rfl) (Or.inl rfl) rfl (hs.o rfl) rfl rfl (Nat.le_of_ble_eq_true rfl) (Nat.le_of_ble_eq_true rfl) rfl) rfl rfl ?_
  refine qev.mono h (fun v _ I1 _ h => ?_)
  obtain ⟨rfl, h⟩ := h
  refine ⟨rfl, ?_⟩
  refine e_next (pc' := 37) rfl rfl ?_
  refine e_getI (pc' := 40) rfl (Or.inl rfl) rfl (hs.o rfl) ?_
  refine e_iconst (pc' := 41) rfl rfl kc_m1 ?_
  refine e_icmp (¬ (I1 105 4) = (-1)) (pc' := 44) rfl rfl e_d (fun hc => ?_) (fun hc => ?_)
  · replace h := h.2 hc
    refine e_next (pc' := 49) rfl rfl ?_
    refine e_getI (pc' := 52) rfl (Or.inl rfl) rfl (hs.o rfl) ?_
    refine e_iconst (pc' := 53) rfl rfl kc_m1 ?_
    refine e_icmp (¬ (I1 105 4) = (-1)) (pc' := 56) rfl rfl e_d (fun hc => ?_) (fun hc => ?_)
    · replace h := h.2 hc
      refine e_iinc (pc' := 66) (ls' := [_, _]) (v := (nI 1)) rfl rfl kc_1 rfl rfl ?_
      refine e_next (pc' := 2) rfl rfl ?_
      exact h
    · replace h := h.1 (Decidable.not_not.mp hc)
      refine e_next (pc' := 57) rfl rfl ?_
      refine e_bipush (pc' := 59) rfl rfl kb_16 ?_
      refine e_iconst (pc' := 60) rfl rfl kc_0 ?_
      refine e_ciV (pc' := 63) rfl (e_sV (as := [_, _]) (fun _ => rfl) (Or.inl rfl) rfl (hs.o rfl) rfl rfl (Nat.le_of_ble_eq_true rfl) (Nat.le_of_ble_eq_true rfl) rfl) rfl rfl ?_
      refine qev.mono h (fun v _ I2 _ h => ?_)
      obtain ⟨rfl, h⟩ := h
      refine ⟨rfl, ?_⟩
      refine e_iinc (pc' := 66) (ls' := [_, _]) (v := (nI 1)) rfl rfl kc_1 rfl rfl ?_
      refine e_next (pc' := 2) rfl rfl ?_
      exact h
  · replace h := h.1 (Decidable.not_not.mp hc)
    refine e_next (pc' := 45) rfl rfl ?_
    refine e_ciV (pc' := 48) rfl (e_sV (as := []) (fun _ => rfl) (Or.inl rfl) rfl (hs.o rfl) rfl rfl (Nat.le_of_ble_eq_true rfl) (Nat.le_of_ble_eq_true rfl) rfl) rfl rfl ?_
    refine qev.mono h (fun v _ I3 _ h => ?_)
    obtain ⟨rfl, h⟩ := h
    refine ⟨rfl, ?_⟩
    refine e_next (pc' := 49) rfl rfl ?_
    refine e_getI (pc' := 52) rfl (Or.inl rfl) rfl (hs.o rfl) ?_
    refine e_iconst (pc' := 53) rfl rfl kc_m1 ?_
    refine e_icmp (¬ (I3 105 4) = (-1)) (pc' := 56) rfl rfl e_d (fun hc => ?_) (fun hc => ?_)
    · replace h := h.2 hc
      refine e_iinc (pc' := 66) (ls' := [_, _]) (v := (nI 1)) rfl rfl kc_1 rfl rfl ?_
      refine e_next (pc' := 2) rfl rfl ?_
      exact h
    · replace h := h.1 (Decidable.not_not.mp hc)
      refine e_next (pc' := 57) rfl rfl ?_
      refine e_bipush (pc' := 59) rfl rfl kb_16 ?_
      refine e_iconst (pc' := 60) rfl rfl kc_0 ?_
      refine e_ciV (pc' := 63) rfl (e_sV (as := [_, _]) (fun _ => rfl) (Or.inl rfl) rfl (hs.o rfl) rfl rfl (Nat.le_of_ble_eq_true rfl) (Nat.le_of_ble_eq_true rfl) rfl) rfl rfl ?_
      refine qev.mono h (fun v _ I4 _ h => ?_)
      obtain ⟨rfl, h⟩ := h
      refine ⟨rfl, ?_⟩
      refine e_iinc (pc' := 66) (ls' := [_, _]) (v := (nI 1)) rfl rfl kc_1 rfl rfl ?_
      refine e_next (pc' := 2) rfl rfl ?_
      exact h
theorem w171 {d : Nat} {x1 : Int32} {g : qG} {I : qI} {J : qJ} {Q : qQ} (hs : qSh g)  (h : ∃ k1, ((qw I 105 14 x1) 105 14) = nI k1 ∧ k1 < 41 ∧ qC d 154 [.ref 105] g (qw (qw (qw (qw I 105 14 x1) 108 k1 (nI 0)) 105 15 (nI 0)) 105 16 (nI 0)) J (fun v _ I1 _ => ∃ r1, v = some (.int r1) ∧ qC d 157 [.ref 2, .int r1] g I1 J (fun v _ _ _ => ∃ r2, v = some (.int r2) ∧ ((r2 = (-1) → qC d 155 [.ref 105] g I1 J (fun v _ I4 _ => v = none ∧ Q none g I4 J)) ∧ (¬ r2 = (-1) → ∃ k2, (I1 105 14) = nI k2 ∧ k2 < 41 ∧ qC d 160 [.ref 105, .int (nI 61)] g (qw (qw I1 107 k2 r2) 105 3 (((qw I1 107 k2 r2) 105 3) + (nI 1))) J (fun v _ I2 _ => v = none ∧ (((I2 105 4) = (-1) → qC d 165 [.ref 105] g I2 J (fun v _ I3 _ => v = none ∧ Q none g I3 J)) ∧ (¬ (I2 105 4) = (-1) → Q none g I2 J)))))))) : qC (d + 1) 171 [.ref 105, .int x1] g I J Q := by
  show qev (d + 1) 171 (0, [.ref 105, .int x1, qpad], [], g, I, J) Q
  refine e_next (pc' := 1) rfl rfl ?_
  refine e_next (pc' := 2) rfl rfl ?_
  refine e_putI (pc' := 5) rfl rfl (hs.o rfl) ?_
  refine e_next (pc' := 6) rfl rfl ?_
  refine e_getR (pc' := 9) rfl rfl (hs.o rfl) (hs.a rfl) ?_
  refine e_next (pc' := 10) rfl rfl ?_
  refine e_getI (pc' := 13) rfl (Or.inl rfl) rfl (hs.o rfl) ?_
  refine e_iconst (pc' := 14) rfl rfl kc_0 ?_
  obtain ⟨k1, hi_k1, hj_k1, h⟩ := h
  refine e_iast k1 (pc' := 15) rfl rfl (hs.k rfl) hi_k1 hj_k1 (by decide) ?_
  refine e_next (pc' := 16) rfl rfl ?_
  refine e_iconst (pc' := 17) rfl rfl kc_0 ?_
  refine e_putI (pc' := 20) rfl rfl (hs.o rfl) ?_
  refine e_next (pc' := 21) rfl rfl ?_
  refine e_iconst (pc' := 22) rfl rfl kc_0 ?_
  refine e_putI (pc' := 25) rfl rfl (hs.o rfl) ?_
  refine e_next (pc' := 27) rfl rfl ?_
  refine e_next (pc' := 28) rfl rfl ?_
  refine e_ciI (pc' := 31) rfl (e_sV (as := []) (fun _ => rfl) (Or.inl rfl) rfl (hs.o rfl) rfl rfl (Nat.le_of_ble_eq_true rfl) (Nat.le_of_ble_eq_true rfl) rfl) rfl rfl ?_
  refine qev.mono h (fun v _ I1 _ h => ?_)
  obtain ⟨r1, rfl, h⟩ := h
  refine ⟨r1, rfl, ?_⟩
  refine e_cpI (pc' := 34) rfl (e_sS (as := [_, _]) (fun _ => rfl) rfl (Nat.le_of_ble_eq_true rfl) rfl rfl (Nat.le_of_ble_eq_true rfl) (Nat.le_of_ble_eq_true rfl) rfl) rfl rfl rfl ?_
  refine qev.mono h (fun v _ _ _ h => ?_)
  obtain ⟨r2, rfl, h⟩ := h
  refine ⟨r2, rfl, ?_⟩
  refine e_next (pc' := 35) (ls' := [_, _, _]) rfl rfl ?_
  refine e_next (pc' := 36) rfl rfl ?_
  refine e_iconst (pc' := 37) rfl rfl kc_m1 ?_
  refine e_icmp (¬ r2 = (-1)) (pc' := 40) rfl rfl e_d (fun hc => ?_) (fun hc => ?_)
  · replace h := h.2 hc
    refine e_next (pc' := 46) rfl rfl ?_
    refine e_getR (pc' := 49) rfl rfl (hs.o rfl) (hs.a rfl) ?_
    refine e_next (pc' := 50) rfl rfl ?_
    refine e_getI (pc' := 53) rfl (Or.inl rfl) rfl (hs.o rfl) ?_
    refine e_next (pc' := 54) rfl rfl ?_
    obtain ⟨k2, hi_k2, hj_k2, h⟩ := h
    refine e_iast k2 (pc' := 55) rfl rfl (hs.k rfl) hi_k2 hj_k2 (by decide) ?_
    refine e_next (pc' := 56) rfl rfl ?_
    refine e_next (pc' := 57) rfl rfl ?_
    refine e_getI (pc' := 60) rfl (Or.inl rfl) rfl (hs.o rfl) ?_
    refine e_iconst (pc' := 61) rfl rfl kc_1 ?_
    refine e_next (pc' := 62) rfl rfl ?_
    refine e_putI (pc' := 65) rfl rfl (hs.o rfl) ?_
    refine e_next (pc' := 66) rfl rfl ?_
    refine e_bipush (pc' := 68) rfl rfl kb_61 ?_
    refine e_ciV (pc' := 71) rfl (e_sV (as := [_]) (fun _ => rfl) (Or.inl rfl) rfl (hs.o rfl) rfl rfl (Nat.le_of_ble_eq_true rfl) (Nat.le_of_ble_eq_true rfl) rfl) rfl rfl ?_
    refine qev.mono h (fun v _ I2 _ h => ?_)
    obtain ⟨rfl, h⟩ := h
    refine ⟨rfl, ?_⟩
    refine e_next (pc' := 72) rfl rfl ?_
    refine e_getI (pc' := 75) rfl (Or.inl rfl) rfl (hs.o rfl) ?_
    refine e_iconst (pc' := 76) rfl rfl kc_m1 ?_
    refine e_icmp (¬ (I2 105 4) = (-1)) (pc' := 79) rfl rfl e_d (fun hc => ?_) (fun hc => ?_)
    · replace h := h.2 hc
      exact qev_ret rfl rfl h
    · replace h := h.1 (Decidable.not_not.mp hc)
      refine e_next (pc' := 80) rfl rfl ?_
      refine e_ciV (pc' := 83) rfl (e_sV (as := []) (fun _ => rfl) (Or.inl rfl) rfl (hs.o rfl) rfl rfl (Nat.le_of_ble_eq_true rfl) (Nat.le_of_ble_eq_true rfl) rfl) rfl rfl ?_
      refine qev.mono h (fun v _ I3 _ h => ?_)
      obtain ⟨rfl, h⟩ := h
      refine ⟨rfl, ?_⟩
      exact qev_ret rfl rfl h
  · replace h := h.1 (Decidable.not_not.mp hc)
    refine e_next (pc' := 41) rfl rfl ?_
    refine e_ciV (pc' := 44) rfl (e_sV (as := []) (fun _ => rfl) (Or.inl rfl) rfl (hs.o rfl) rfl rfl (Nat.le_of_ble_eq_true rfl) (Nat.le_of_ble_eq_true rfl) rfl) rfl rfl ?_
    refine qev.mono h (fun v _ I4 _ h => ?_)
    obtain ⟨rfl, h⟩ := h
    refine ⟨rfl, ?_⟩
    exact qev_ret rfl rfl h
theorem w172 {d : Nat}  {g : qG} {I : qI} {J : qJ} {Q : qQ}  (h : qev (d + 1) 172 (4, [.ref 105, .int (nI 0), .int (nI 1)], [], g, I, J) Q) : qC (d + 1) 172 [.ref 105] g I J Q := by
  show qev (d + 1) 172 (0, [.ref 105, qpad, qpad], [], g, I, J) Q
  refine e_iconst (pc' := 1) rfl rfl kc_0 ?_
  refine e_next (pc' := 2) (ls' := [_, _, _]) rfl rfl ?_
  refine e_iconst (pc' := 3) rfl rfl kc_1 ?_
  refine e_next (pc' := 4) (ls' := [_, _, _]) rfl rfl ?_
  exact h
theorem w172_4 {d : Nat} {i1 : Int32} {i2 : Int32} {g : qG} {I : qI} {J : qJ} {Q : qQ} (hs : qSh g)  (h : ((i2 = 0 → qC d 154 [.ref 105] g (qw I 110 4 i1) J (fun v _ I1 _ => ∃ r1, v = some (.int r1) ∧ ((r1 = (-1) → Q none g I1 J) ∧ (¬ r1 = (-1) → qC d 155 [.ref 105] g I1 J (fun v _ I2 _ => v = none ∧ Q none g I2 J))))) ∧ (¬ i2 = 0 → qC d 171 [.ref 105, .int ((nI 32) + i1)] g I J (fun v _ I3 _ => v = none ∧ (((I3 105 4) = (-1) → qC d 154 [.ref 105] g I3 J (fun v _ I4 _ => ∃ r2, v = some (.int r2) ∧ ((r2 = (nI 59) → (((i1 + (nI 1)) = (nI 8) → qC d 155 [.ref 105] g I4 J (fun v _ I5 _ => v = none ∧ Q none g I5 J)) ∧ (¬ (i1 + (nI 1)) = (nI 8) → qev (d + 1) 172 (4, [.ref 105, .int (i1 + (nI 1)), .int (nI 1)], [], g, (qw I4 105 3 ((I4 105 3) + (nI 1))), J) Q))) ∧ (¬ r2 = (nI 59) → qev (d + 1) 172 (4, [.ref 105, .int (i1 + (nI 1)), .int (nI 0)], [], g, I4, J) Q)))) ∧ (¬ (I3 105 4) = (-1) → Q none g I3 J)))))) : qev (d + 1) 172 (4, [.ref 105, .int i1, .int i2], [], g, I, J) Q := by
  refine e_next (pc' := 5) rfl rfl ?_
  refine e_if (i2 = 0) (pc' := 8) rfl rfl e_d (fun hc => ?_) (fun hc => ?_)
  · replace h := h.1 hc
    refine e_next (pc' := 76) rfl rfl ?_
    refine e_getR (pc' := 79) rfl rfl (hs.o rfl) (hs.a rfl) ?_
    refine e_iconst (pc' := 80) rfl rfl kc_4 ?_
    refine e_next (pc' := 81) rfl rfl ?_
    refine e_iast 4 (pc' := 82) rfl rfl (hs.k rfl) rfl (by decide) (by decide) ?_
    refine e_next (pc' := 83) rfl rfl ?_
    refine e_ciI (pc' := 86) rfl (e_sV (as := []) (fun _ => rfl) (Or.inl rfl) rfl (hs.o rfl) rfl rfl (Nat.le_of_ble_eq_true rfl) (Nat.le_of_ble_eq_true rfl) rfl) rfl rfl ?_
    refine qev.mono h (fun v _ I1 _ h => ?_)
    obtain ⟨r1, rfl, h⟩ := h
    refine ⟨r1, rfl, ?_⟩
    refine e_iconst (pc' := 87) rfl rfl kc_m1 ?_
    refine e_icmp (r1 = (-1)) (pc' := 90) rfl rfl e_d (fun hc => ?_) (fun hc => ?_)
    · replace h := h.1 hc
      exact qev_ret rfl rfl h
    · replace h := h.2 hc
      refine e_next (pc' := 91) rfl rfl ?_
      refine e_ciV (pc' := 94) rfl (e_sV (as := []) (fun _ => rfl) (Or.inl rfl) rfl (hs.o rfl) rfl rfl (Nat.le_of_ble_eq_true rfl) (Nat.le_of_ble_eq_true rfl) rfl) rfl rfl ?_
      refine qev.mono h (fun v _ I2 _ h => ?_)
      obtain ⟨rfl, h⟩ := h
      refine ⟨rfl, ?_⟩
      exact qev_ret rfl rfl h
  · replace h := h.2 hc
    refine e_next (pc' := 9) rfl rfl ?_
    refine e_bipush (pc' := 11) rfl rfl kb_32 ?_
    refine e_next (pc' := 12) rfl rfl ?_
    refine e_next (pc' := 13) rfl rfl ?_
    refine e_ciV (pc' := 16) rfl (e_sV (as := [_]) (fun _ => rfl) (Or.inl rfl) rfl (hs.o rfl) rfl rfl (Nat.le_of_ble_eq_true rfl) (Nat.le_of_ble_eq_true rfl) rfl) rfl rfl ?_
    refine qev.mono h (fun v _ I3 _ h => ?_)
    obtain ⟨rfl, h⟩ := h
    refine ⟨rfl, ?_⟩
    refine e_next (pc' := 17) rfl rfl ?_
    refine e_getI (pc' := 20) rfl (Or.inl rfl) rfl (hs.o rfl) ?_
    refine e_iconst (pc' := 21) rfl rfl kc_m1 ?_
    refine e_icmp ((I3 105 4) = (-1)) (pc' := 24) rfl rfl e_d (fun hc => ?_) (fun hc => ?_)
    · replace h := h.1 hc
      refine e_iinc (pc' := 28) (ls' := [_, _, _]) (v := (nI 1)) rfl rfl kc_1 rfl rfl ?_
      refine e_next (pc' := 29) rfl rfl ?_
      refine e_ciI (pc' := 32) rfl (e_sV (as := []) (fun _ => rfl) (Or.inl rfl) rfl (hs.o rfl) rfl rfl (Nat.le_of_ble_eq_true rfl) (Nat.le_of_ble_eq_true rfl) rfl) rfl rfl ?_
      refine qev.mono h (fun v _ I4 _ h => ?_)
      obtain ⟨r2, rfl, h⟩ := h
      refine ⟨r2, rfl, ?_⟩
      refine e_bipush (pc' := 34) rfl rfl kb_59 ?_
      refine e_icmp (¬ r2 = (nI 59)) (pc' := 37) rfl rfl e_d (fun hc => ?_) (fun hc => ?_)
      · replace h := h.2 hc
        refine e_iconst (pc' := 42) rfl rfl kc_0 ?_
        refine e_next (pc' := 43) (ls' := [_, _, _]) rfl rfl ?_
        refine e_next (pc' := 44) rfl rfl ?_
        refine e_next (pc' := 58) rfl rfl ?_
        refine e_next (pc' := 59) rfl rfl ?_
        refine e_next (pc' := 4) rfl rfl ?_
        exact h
      · replace h := h.1 (Decidable.not_not.mp hc)
        refine e_iconst (pc' := 38) rfl rfl kc_1 ?_
        refine e_next (pc' := 42) rfl rfl ?_
        refine e_next (pc' := 43) (ls' := [_, _, _]) rfl rfl ?_
        refine e_next (pc' := 44) rfl rfl ?_
        refine e_next (pc' := 47) rfl rfl ?_
        refine e_next (pc' := 48) rfl rfl ?_
        refine e_bipush (pc' := 50) rfl rfl kb_8 ?_
        refine e_icmp (¬ (i1 + (nI 1)) = (nI 8)) (pc' := 53) rfl rfl e_d (fun hc => ?_) (fun hc => ?_)
        · replace h := h.2 hc
          refine e_next (pc' := 59) rfl rfl ?_
          refine e_next (pc' := 62) rfl rfl ?_
          refine e_next (pc' := 63) rfl rfl ?_
          refine e_next (pc' := 64) rfl rfl ?_
          refine e_getI (pc' := 67) rfl (Or.inl rfl) rfl (hs.o rfl) ?_
          refine e_iconst (pc' := 68) rfl rfl kc_1 ?_
          refine e_next (pc' := 69) rfl rfl ?_
          refine e_putI (pc' := 72) rfl rfl (hs.o rfl) ?_
          refine e_next (pc' := 4) rfl rfl ?_
          exact h
        · replace h := h.1 (Decidable.not_not.mp hc)
          refine e_next (pc' := 54) rfl rfl ?_
          refine e_ciV (pc' := 57) rfl (e_sV (as := []) (fun _ => rfl) (Or.inl rfl) rfl (hs.o rfl) rfl rfl (Nat.le_of_ble_eq_true rfl) (Nat.le_of_ble_eq_true rfl) rfl) rfl rfl ?_
          refine qev.mono h (fun v _ I5 _ h => ?_)
          obtain ⟨rfl, h⟩ := h
          refine ⟨rfl, ?_⟩
          exact qev_ret rfl rfl h
    · replace h := h.2 hc
      exact qev_ret rfl rfl h
theorem w173 {d : Nat}  {g : qG} {I : qI} {J : qJ} {Q : qQ} (hs : qSh g)  (h : qC d 171 [.ref 105, .int (nI 40)] g I J (fun v _ I1 _ => v = none ∧ (((I1 105 4) = (-1) → qC d 154 [.ref 105] g I1 J (fun v _ I2 _ => ∃ r1, v = some (.int r1) ∧ ((r1 = (-1) → Q none g I2 J) ∧ (¬ r1 = (-1) → qC d 155 [.ref 105] g I2 J (fun v _ I3 _ => v = none ∧ Q none g I3 J))))) ∧ (¬ (I1 105 4) = (-1) → Q none g I1 J)))) : qC (d + 1) 173 [.ref 105] g I J Q := by
  show qev (d + 1) 173 (0, [.ref 105], [], g, I, J) Q
  refine e_next (pc' := 1) rfl rfl ?_
  refine e_bipush (pc' := 3) rfl rfl kb_40 ?_
  refine e_ciV (pc' := 6) rfl (e_sV (as := [_]) (fun _ => rfl) (Or.inl rfl) rfl (hs.o rfl) rfl rfl (Nat.le_of_ble_eq_true rfl) (Nat.le_of_ble_eq_true rfl) rfl) rfl rfl ?_
  refine qev.mono h (fun v _ I1 _ h => ?_)
  obtain ⟨rfl, h⟩ := h
  refine ⟨rfl, ?_⟩
  refine e_next (pc' := 7) rfl rfl ?_
  refine e_getI (pc' := 10) rfl (Or.inl rfl) rfl (hs.o rfl) ?_
  refine e_iconst (pc' := 11) rfl rfl kc_m1 ?_
  refine e_icmp (¬ (I1 105 4) = (-1)) (pc' := 14) rfl rfl e_d (fun hc => ?_) (fun hc => ?_)
  · replace h := h.2 hc
    exact qev_ret rfl rfl h
  · replace h := h.1 (Decidable.not_not.mp hc)
    refine e_next (pc' := 15) rfl rfl ?_
    refine e_ciI (pc' := 18) rfl (e_sV (as := []) (fun _ => rfl) (Or.inl rfl) rfl (hs.o rfl) rfl rfl (Nat.le_of_ble_eq_true rfl) (Nat.le_of_ble_eq_true rfl) rfl) rfl rfl ?_
    refine qev.mono h (fun v _ I2 _ h => ?_)
    obtain ⟨r1, rfl, h⟩ := h
    refine ⟨r1, rfl, ?_⟩
    refine e_iconst (pc' := 19) rfl rfl kc_m1 ?_
    refine e_icmp (r1 = (-1)) (pc' := 22) rfl rfl e_d (fun hc => ?_) (fun hc => ?_)
    · replace h := h.1 hc
      exact qev_ret rfl rfl h
    · replace h := h.2 hc
      refine e_next (pc' := 23) rfl rfl ?_
      refine e_ciV (pc' := 26) rfl (e_sV (as := []) (fun _ => rfl) (Or.inl rfl) rfl (hs.o rfl) rfl rfl (Nat.le_of_ble_eq_true rfl) (Nat.le_of_ble_eq_true rfl) rfl) rfl rfl ?_
      refine qev.mono h (fun v _ I3 _ h => ?_)
      obtain ⟨rfl, h⟩ := h
      refine ⟨rfl, ?_⟩
      exact qev_ret rfl rfl h
theorem w174 {d : Nat} {x1 : Int32} {g : qG} {I : qI} {J : qJ} {Q : qQ} (hs : qSh g)  (h : qC d 147 [.long (Int32.toInt64 x1), .long (lN 0), .long (lN 2)] g (qw I 105 0 (nI 0)) J (fun v _ _ _ => ∃ r1, v = some (.int r1) ∧ ((r1 = 0 → Q (some (.int (-2))) g (qw I 105 0 (nI 0)) J) ∧ (¬ r1 = 0 → ((x1 = 0 → qC d 161 [.ref 105] g (qw (qw (qw I 105 0 (nI 0)) 105 3 (nI 0)) 105 4 (-1)) J (fun v _ I3 _ => v = none ∧ Q (some (.int (I3 105 4))) g I3 J)) ∧ (¬ x1 = 0 → ((x1 = (nI 1) → qC d 172 [.ref 105] g (qw (qw (qw I 105 0 (nI 0)) 105 3 (nI 0)) 105 4 (-1)) J (fun v _ I2 _ => v = none ∧ Q (some (.int (I2 105 4))) g I2 J)) ∧ (¬ x1 = (nI 1) → qC d 173 [.ref 105] g (qw (qw (qw I 105 0 (nI 0)) 105 3 (nI 0)) 105 4 (-1)) J (fun v _ I1 _ => v = none ∧ Q (some (.int (I1 105 4))) g I1 J))))))))) : qC (d + 1) 174 [.ref 105, .int x1] g I J Q := by
  show qev (d + 1) 174 (0, [.ref 105, .int x1], [], g, I, J) Q
  refine e_next (pc' := 1) rfl rfl ?_
  refine e_iconst (pc' := 2) rfl rfl kc_0 ?_
  refine e_putI (pc' := 5) rfl rfl (hs.o rfl) ?_
  refine e_next (pc' := 6) rfl rfl ?_
  refine e_next (pc' := 7) rfl rfl ?_
  refine e_lconst (pc' := 8) rfl rfl kl_0 ?_
  refine e_ldc2 (pc' := 11) rfl rfl kN_2 ?_
  refine e_cpI (pc' := 14) rfl (e_sS (as := [_, _, _]) (fun _ => rfl) rfl (Nat.le_of_ble_eq_true rfl) rfl rfl (Nat.le_of_ble_eq_true rfl) (Nat.le_of_ble_eq_true rfl) rfl) rfl rfl rfl ?_
  refine qev.mono h (fun v _ _ _ h => ?_)
  obtain ⟨r1, rfl, h⟩ := h
  refine ⟨r1, rfl, ?_⟩
  refine e_if (¬ r1 = 0) (pc' := 17) rfl rfl e_d (fun hc => ?_) (fun hc => ?_)
  · replace h := h.2 hc
    refine e_next (pc' := 21) rfl rfl ?_
    refine e_iconst (pc' := 22) rfl rfl kc_0 ?_
    refine e_putI (pc' := 25) rfl rfl (hs.o rfl) ?_
    refine e_next (pc' := 26) rfl rfl ?_
    refine e_iconst (pc' := 27) rfl rfl kc_m1 ?_
    refine e_putI (pc' := 30) rfl rfl (hs.o rfl) ?_
    refine e_next (pc' := 31) rfl rfl ?_
    refine e_if (¬ x1 = 0) (pc' := 34) rfl rfl e_d (fun hc => ?_) (fun hc => ?_)
    · replace h := h.2 hc
      refine e_next (pc' := 42) rfl rfl ?_
      refine e_iconst (pc' := 43) rfl rfl kc_1 ?_
      refine e_icmp (¬ x1 = (nI 1)) (pc' := 46) rfl rfl e_d (fun hc => ?_) (fun hc => ?_)
      · replace h := h.2 hc
        refine e_next (pc' := 54) rfl rfl ?_
        refine e_ciV (pc' := 57) rfl (e_sV (as := []) (fun _ => rfl) (Or.inl rfl) rfl (hs.o rfl) rfl rfl (Nat.le_of_ble_eq_true rfl) (Nat.le_of_ble_eq_true rfl) rfl) rfl rfl ?_
        refine qev.mono h (fun v _ I1 _ h => ?_)
        obtain ⟨rfl, h⟩ := h
        refine ⟨rfl, ?_⟩
        refine e_next (pc' := 58) rfl rfl ?_
        refine e_getI (pc' := 61) rfl (Or.inl rfl) rfl (hs.o rfl) ?_
        exact e_iret rfl h
      · replace h := h.1 (Decidable.not_not.mp hc)
        refine e_next (pc' := 47) rfl rfl ?_
        refine e_ciV (pc' := 50) rfl (e_sV (as := []) (fun _ => rfl) (Or.inl rfl) rfl (hs.o rfl) rfl rfl (Nat.le_of_ble_eq_true rfl) (Nat.le_of_ble_eq_true rfl) rfl) rfl rfl ?_
        refine qev.mono h (fun v _ I2 _ h => ?_)
        obtain ⟨rfl, h⟩ := h
        refine ⟨rfl, ?_⟩
        refine e_next (pc' := 57) rfl rfl ?_
        refine e_next (pc' := 58) rfl rfl ?_
        refine e_getI (pc' := 61) rfl (Or.inl rfl) rfl (hs.o rfl) ?_
        exact e_iret rfl h
    · replace h := h.1 (Decidable.not_not.mp hc)
      refine e_next (pc' := 35) rfl rfl ?_
      refine e_ciV (pc' := 38) rfl (e_sV (as := []) (fun _ => rfl) (Or.inl rfl) rfl (hs.o rfl) rfl rfl (Nat.le_of_ble_eq_true rfl) (Nat.le_of_ble_eq_true rfl) rfl) rfl rfl ?_
      refine qev.mono h (fun v _ I3 _ h => ?_)
      obtain ⟨rfl, h⟩ := h
      refine ⟨rfl, ?_⟩
      refine e_next (pc' := 57) rfl rfl ?_
      refine e_next (pc' := 58) rfl rfl ?_
      refine e_getI (pc' := 61) rfl (Or.inl rfl) rfl (hs.o rfl) ?_
      exact e_iret rfl h
  · replace h := h.1 (Decidable.not_not.mp hc)
    refine e_bipush (pc' := 19) rfl rfl kb_m2 ?_
    exact e_iret rfl h
theorem w175 {d : Nat} {x1 : Int32} {x2 : Int32} {g : qG} {I : qI} {J : qJ} {Q : qQ} (hs : qSh g)  (h : ∃ k1, x1 = nI k1 ∧ k1 < 41 ∧ ∃ k2, x2 = nI k2 ∧ k2 < 41 ∧ ∃ k3, x1 = nI k3 ∧ k3 < 41 ∧ ∃ k4, x2 = nI k4 ∧ k4 < 41 ∧ qev d 175 (26, [.ref 105, .int x1, .int x2, .int (nI 0)], [], g, (qw (qw I 107 k2 (I 107 k1)) 108 k4 ((qw I 107 k2 (I 107 k1)) 108 k3)), J) Q) : qC d 175 [.ref 105, .int x1, .int x2] g I J Q := by
  show qev d 175 (0, [.ref 105, .int x1, .int x2, qpad], [], g, I, J) Q
  refine e_next (pc' := 1) rfl rfl ?_
  refine e_getR (pc' := 4) rfl rfl (hs.o rfl) (hs.a rfl) ?_
  refine e_next (pc' := 5) rfl rfl ?_
  refine e_next (pc' := 6) rfl rfl ?_
  refine e_getR (pc' := 9) rfl rfl (hs.o rfl) (hs.a rfl) ?_
  refine e_next (pc' := 10) rfl rfl ?_
  obtain ⟨k1, hi_k1, hj_k1, h⟩ := h
  refine e_iald k1 (pc' := 11) rfl rfl (hs.k rfl) hi_k1 hj_k1 (by decide) ?_
  obtain ⟨k2, hi_k2, hj_k2, h⟩ := h
  refine e_iast k2 (pc' := 12) rfl rfl (hs.k rfl) hi_k2 hj_k2 (by decide) ?_
  refine e_next (pc' := 13) rfl rfl ?_
  refine e_getR (pc' := 16) rfl rfl (hs.o rfl) (hs.a rfl) ?_
  refine e_next (pc' := 17) rfl rfl ?_
  refine e_next (pc' := 18) rfl rfl ?_
  refine e_getR (pc' := 21) rfl rfl (hs.o rfl) (hs.a rfl) ?_
  refine e_next (pc' := 22) rfl rfl ?_
  obtain ⟨k3, hi_k3, hj_k3, h⟩ := h
  refine e_iald k3 (pc' := 23) rfl rfl (hs.k rfl) hi_k3 hj_k3 (by decide) ?_
  obtain ⟨k4, hi_k4, hj_k4, h⟩ := h
  refine e_iast k4 (pc' := 24) rfl rfl (hs.k rfl) hi_k4 hj_k4 (by decide) ?_
  refine e_iconst (pc' := 25) rfl rfl kc_0 ?_
  refine e_next (pc' := 26) (ls' := [_, _, _, _]) rfl rfl ?_
  exact h
theorem w175_26 {d : Nat} {i1 : Int32} {i2 : Int32} {i3 : Int32} {g : qG} {I : qI} {J : qJ} {Q : qQ} (hs : qSh g)  (h : (((nI 280) ≤ i3 → Q none g I J) ∧ (¬ (nI 280) ≤ i3 → ∃ k1, (((nI 280) * i1) + i3) = nI k1 ∧ k1 < 11480 ∧ ∃ k2, (((nI 280) * i2) + i3) = nI k2 ∧ k2 < 11480 ∧ qev d 175 (26, [.ref 105, .int i1, .int i2, .int (i3 + (nI 1))], [], g, (qw I 109 k2 (I 109 k1)), J) Q))) : qev d 175 (26, [.ref 105, .int i1, .int i2, .int i3], [], g, I, J) Q := by
  refine e_next (pc' := 27) rfl rfl ?_
  refine e_sipush (pc' := 30) rfl rfl ks_280 ?_
  refine e_icmp ((nI 280) ≤ i3) (pc' := 33) rfl rfl e_d (fun hc => ?_) (fun hc => ?_)
  · replace h := h.1 hc
    exact qev_ret rfl rfl h
  · replace h := h.2 hc
    refine e_next (pc' := 34) rfl rfl ?_
    refine e_getR (pc' := 37) rfl rfl (hs.o rfl) (hs.a rfl) ?_
    refine e_sipush (pc' := 40) rfl rfl ks_280 ?_
    refine e_next (pc' := 41) rfl rfl ?_
    refine e_next (pc' := 42) rfl rfl ?_
    refine e_next (pc' := 43) rfl rfl ?_
    refine e_next (pc' := 44) rfl rfl ?_
    refine e_next (pc' := 45) rfl rfl ?_
    refine e_getR (pc' := 48) rfl rfl (hs.o rfl) (hs.a rfl) ?_
    refine e_sipush (pc' := 51) rfl rfl ks_280 ?_
    refine e_next (pc' := 52) rfl rfl ?_
    refine e_next (pc' := 53) rfl rfl ?_
    refine e_next (pc' := 54) rfl rfl ?_
    refine e_next (pc' := 55) rfl rfl ?_
    obtain ⟨k1, hi_k1, hj_k1, h⟩ := h
    refine e_iald k1 (pc' := 56) rfl rfl (hs.k rfl) hi_k1 hj_k1 (by decide) ?_
    obtain ⟨k2, hi_k2, hj_k2, h⟩ := h
    refine e_iast k2 (pc' := 57) rfl rfl (hs.k rfl) hi_k2 hj_k2 (by decide) ?_
    refine e_iinc (pc' := 60) (ls' := [_, _, _, _]) (v := (nI 1)) rfl rfl kc_1 rfl rfl ?_
    refine e_next (pc' := 26) rfl rfl ?_
    exact h
theorem w176 {d : Nat} {x1 : Int32} {g : qG} {I : qI} {J : qJ} {Q : qQ} (hs : qSh g)  (h : qC d 147 [.long (Int32.toInt64 x1), .long (lN 0), .long (lN 1)] g (qw I 105 0 (nI 0)) J (fun v _ _ _ => ∃ r1, v = some (.int r1) ∧ ((r1 = 0 → Q (some (.int (-1))) g (qw I 105 0 (nI 0)) J) ∧ (¬ r1 = 0 → ((x1 = (nI 1) → ((((qw I 105 0 (nI 0)) 105 13) = (nI 4) → Q (some (.int (-1))) g (qw I 105 0 (nI 0)) J) ∧ (¬ ((qw I 105 0 (nI 0)) 105 13) = (nI 4) → qC d 174 [.ref 105, .int x1] g (qw I 105 0 (nI 0)) J (fun v _ I2 _ => ∃ r3, v = some (.int r3) ∧ ((r3 = (-1) → ((x1 = (nI 1) → qev (d + 1) 176 (51, [.ref 105, .int x1, .int (nI 0)], [], g, (qw I2 105 2 (nI 0)), J) Q) ∧ (¬ x1 = (nI 1) → qev (d + 1) 176 (134, [.ref 105, .int x1, .int (nI 0)], [], g, (qw (qw (qw I2 105 2 (nI 0)) 105 7 ((qw I2 105 2 (nI 0)) 105 5)) 105 8 ((qw (qw I2 105 2 (nI 0)) 105 7 ((qw I2 105 2 (nI 0)) 105 5)) 105 6)), J) Q))) ∧ (¬ r3 = (-1) → Q (some (.int (-1))) g I2 J)))))) ∧ (¬ x1 = (nI 1) → qC d 174 [.ref 105, .int x1] g (qw I 105 0 (nI 0)) J (fun v _ I1 _ => ∃ r2, v = some (.int r2) ∧ ((r2 = (-1) → ((x1 = (nI 1) → qev (d + 1) 176 (51, [.ref 105, .int x1, .int (nI 0)], [], g, (qw I1 105 2 (nI 0)), J) Q) ∧ (¬ x1 = (nI 1) → qev (d + 1) 176 (134, [.ref 105, .int x1, .int (nI 0)], [], g, (qw (qw (qw I1 105 2 (nI 0)) 105 7 ((qw I1 105 2 (nI 0)) 105 5)) 105 8 ((qw (qw I1 105 2 (nI 0)) 105 7 ((qw I1 105 2 (nI 0)) 105 5)) 105 6)), J) Q))) ∧ (¬ r2 = (-1) → Q (some (.int (-1))) g I1 J))))))))) : qC (d + 1) 176 [.ref 105, .int x1] g I J Q := by
  show qev (d + 1) 176 (0, [.ref 105, .int x1, qpad], [], g, I, J) Q
  refine e_next (pc' := 1) rfl rfl ?_
  refine e_iconst (pc' := 2) rfl rfl kc_0 ?_
  refine e_putI (pc' := 5) rfl rfl (hs.o rfl) ?_
  refine e_next (pc' := 6) rfl rfl ?_
  refine e_next (pc' := 7) rfl rfl ?_
  refine e_lconst (pc' := 8) rfl rfl kl_0 ?_
  refine e_lconst (pc' := 9) rfl rfl kl_1 ?_
  refine e_cpI (pc' := 12) rfl (e_sS (as := [_, _, _]) (fun _ => rfl) rfl (Nat.le_of_ble_eq_true rfl) rfl rfl (Nat.le_of_ble_eq_true rfl) (Nat.le_of_ble_eq_true rfl) rfl) rfl rfl rfl ?_
  refine qev.mono h (fun v _ _ _ h => ?_)
  obtain ⟨r1, rfl, h⟩ := h
  refine ⟨r1, rfl, ?_⟩
  refine e_if (r1 = 0) (pc' := 15) rfl rfl e_d (fun hc => ?_) (fun hc => ?_)
  · replace h := h.1 hc
    refine e_iconst (pc' := 38) rfl rfl kc_m1 ?_
    exact e_iret rfl h
  · replace h := h.2 hc
    refine e_next (pc' := 16) rfl rfl ?_
    refine e_iconst (pc' := 17) rfl rfl kc_1 ?_
    refine e_icmp (¬ x1 = (nI 1)) (pc' := 20) rfl rfl e_d (fun hc => ?_) (fun hc => ?_)
    · replace h := h.2 hc
      refine e_next (pc' := 29) rfl rfl ?_
      refine e_next (pc' := 30) rfl rfl ?_
      refine e_ciI (pc' := 33) rfl (e_sV (as := [_]) (fun _ => rfl) (Or.inl rfl) rfl (hs.o rfl) rfl rfl (Nat.le_of_ble_eq_true rfl) (Nat.le_of_ble_eq_true rfl) rfl) rfl rfl ?_
      refine qev.mono h (fun v _ I1 _ h => ?_)
      obtain ⟨r2, rfl, h⟩ := h
      refine ⟨r2, rfl, ?_⟩
      refine e_iconst (pc' := 34) rfl rfl kc_m1 ?_
      refine e_icmp (r2 = (-1)) (pc' := 37) rfl rfl e_d (fun hc => ?_) (fun hc => ?_)
      · replace h := h.1 hc
        refine e_next (pc' := 40) rfl rfl ?_
        refine e_iconst (pc' := 41) rfl rfl kc_0 ?_
        refine e_putI (pc' := 44) rfl rfl (hs.o rfl) ?_
        refine e_next (pc' := 45) rfl rfl ?_
        refine e_iconst (pc' := 46) rfl rfl kc_1 ?_
        refine e_icmp (¬ x1 = (nI 1)) (pc' := 49) rfl rfl e_d (fun hc => ?_) (fun hc => ?_)
        · replace h := h.2 hc
          refine e_next (pc' := 117) rfl rfl ?_
          refine e_next (pc' := 118) rfl rfl ?_
          refine e_getI (pc' := 121) rfl (Or.inl rfl) rfl (hs.o rfl) ?_
          refine e_putI (pc' := 124) rfl rfl (hs.o rfl) ?_
          refine e_next (pc' := 125) rfl rfl ?_
          refine e_next (pc' := 126) rfl rfl ?_
          refine e_getI (pc' := 129) rfl (Or.inl rfl) rfl (hs.o rfl) ?_
          refine e_putI (pc' := 132) rfl rfl (hs.o rfl) ?_
          refine e_iconst (pc' := 133) rfl rfl kc_0 ?_
          refine e_next (pc' := 134) (ls' := [_, _, _]) rfl rfl ?_
          exact h
        · replace h := h.1 (Decidable.not_not.mp hc)
          refine e_iconst (pc' := 50) rfl rfl kc_0 ?_
          refine e_next (pc' := 51) (ls' := [_, _, _]) rfl rfl ?_
          exact h
      · replace h := h.2 hc
        refine e_iconst (pc' := 38) rfl rfl kc_m1 ?_
        exact e_iret rfl h
    · replace h := h.1 (Decidable.not_not.mp hc)
      refine e_next (pc' := 21) rfl rfl ?_
      refine e_getI (pc' := 24) rfl (Or.inl rfl) rfl (hs.o rfl) ?_
      refine e_iconst (pc' := 25) rfl rfl kc_4 ?_
      refine e_icmp (((qw I 105 0 (nI 0)) 105 13) = (nI 4)) (pc' := 28) rfl rfl e_d (fun hc => ?_) (fun hc => ?_)
      · replace h := h.1 hc
        refine e_iconst (pc' := 38) rfl rfl kc_m1 ?_
        exact e_iret rfl h
      · replace h := h.2 hc
        refine e_next (pc' := 29) rfl rfl ?_
        refine e_next (pc' := 30) rfl rfl ?_
        refine e_ciI (pc' := 33) rfl (e_sV (as := [_]) (fun _ => rfl) (Or.inl rfl) rfl (hs.o rfl) rfl rfl (Nat.le_of_ble_eq_true rfl) (Nat.le_of_ble_eq_true rfl) rfl) rfl rfl ?_
        refine qev.mono h (fun v _ I2 _ h => ?_)
        obtain ⟨r3, rfl, h⟩ := h
        refine ⟨r3, rfl, ?_⟩
        refine e_iconst (pc' := 34) rfl rfl kc_m1 ?_
        refine e_icmp (r3 = (-1)) (pc' := 37) rfl rfl e_d (fun hc => ?_) (fun hc => ?_)
        · replace h := h.1 hc
          refine e_next (pc' := 40) rfl rfl ?_
          refine e_iconst (pc' := 41) rfl rfl kc_0 ?_
          refine e_putI (pc' := 44) rfl rfl (hs.o rfl) ?_
          refine e_next (pc' := 45) rfl rfl ?_
          refine e_iconst (pc' := 46) rfl rfl kc_1 ?_
          refine e_icmp (¬ x1 = (nI 1)) (pc' := 49) rfl rfl e_d (fun hc => ?_) (fun hc => ?_)
          · replace h := h.2 hc
            refine e_next (pc' := 117) rfl rfl ?_
            refine e_next (pc' := 118) rfl rfl ?_
            refine e_getI (pc' := 121) rfl (Or.inl rfl) rfl (hs.o rfl) ?_
            refine e_putI (pc' := 124) rfl rfl (hs.o rfl) ?_
            refine e_next (pc' := 125) rfl rfl ?_
            refine e_next (pc' := 126) rfl rfl ?_
            refine e_getI (pc' := 129) rfl (Or.inl rfl) rfl (hs.o rfl) ?_
            refine e_putI (pc' := 132) rfl rfl (hs.o rfl) ?_
            refine e_iconst (pc' := 133) rfl rfl kc_0 ?_
            refine e_next (pc' := 134) (ls' := [_, _, _]) rfl rfl ?_
            exact h
          · replace h := h.1 (Decidable.not_not.mp hc)
            refine e_iconst (pc' := 50) rfl rfl kc_0 ?_
            refine e_next (pc' := 51) (ls' := [_, _, _]) rfl rfl ?_
            exact h
        · replace h := h.2 hc
          refine e_iconst (pc' := 38) rfl rfl kc_m1 ?_
          exact e_iret rfl h
theorem w176_51 {d : Nat} {i1 : Int32} {i2 : Int32} {g : qG} {I : qI} {J : qJ} {Q : qQ} (hs : qSh g)  (h : (((I 110 4) ≤ i2 → ∃ k1, (I 105 13) = nI k1 ∧ k1 < 5 ∧ Q (some (.int (((qw (qw I 110 k1 (I 110 4)) 105 13 (((qw I 110 k1 (I 110 4)) 105 13) + (nI 1))) 105 13) - (nI 1)))) g (qw (qw I 110 k1 (I 110 4)) 105 13 (((qw I 110 k1 (I 110 4)) 105 13) + (nI 1))) J) ∧ (¬ (I 110 4) ≤ i2 → qC d 175 [.ref 105, .int ((nI 32) + i2), .int (((nI 8) * (I 105 13)) + i2)] g I J (fun v _ I1 _ => v = none ∧ qev (d + 1) 176 (51, [.ref 105, .int i1, .int (i2 + (nI 1))], [], g, I1, J) Q)))) : qev (d + 1) 176 (51, [.ref 105, .int i1, .int i2], [], g, I, J) Q := by
  refine e_next (pc' := 52) rfl rfl ?_
  refine e_next (pc' := 53) rfl rfl ?_
  refine e_getR (pc' := 56) rfl rfl (hs.o rfl) (hs.a rfl) ?_
  refine e_iconst (pc' := 57) rfl rfl kc_4 ?_
  refine e_iald 4 (pc' := 58) rfl rfl (hs.k rfl) rfl (by decide) (by decide) ?_
  refine e_icmp ((I 110 4) ≤ i2) (pc' := 61) rfl rfl e_d (fun hc => ?_) (fun hc => ?_)
  · replace h := h.1 hc
    refine e_next (pc' := 85) rfl rfl ?_
    refine e_getR (pc' := 88) rfl rfl (hs.o rfl) (hs.a rfl) ?_
    refine e_next (pc' := 89) rfl rfl ?_
    refine e_getI (pc' := 92) rfl (Or.inl rfl) rfl (hs.o rfl) ?_
    refine e_next (pc' := 93) rfl rfl ?_
    refine e_getR (pc' := 96) rfl rfl (hs.o rfl) (hs.a rfl) ?_
    refine e_iconst (pc' := 97) rfl rfl kc_4 ?_
    refine e_iald 4 (pc' := 98) rfl rfl (hs.k rfl) rfl (by decide) (by decide) ?_
    obtain ⟨k1, hi_k1, hj_k1, h⟩ := h
    refine e_iast k1 (pc' := 99) rfl rfl (hs.k rfl) hi_k1 hj_k1 (by decide) ?_
    refine e_next (pc' := 100) rfl rfl ?_
    refine e_next (pc' := 101) rfl rfl ?_
    refine e_getI (pc' := 104) rfl (Or.inl rfl) rfl (hs.o rfl) ?_
    refine e_iconst (pc' := 105) rfl rfl kc_1 ?_
    refine e_next (pc' := 106) rfl rfl ?_
    refine e_putI (pc' := 109) rfl rfl (hs.o rfl) ?_
    refine e_next (pc' := 110) rfl rfl ?_
    refine e_getI (pc' := 113) rfl (Or.inl rfl) rfl (hs.o rfl) ?_
    refine e_iconst (pc' := 114) rfl rfl kc_1 ?_
    refine e_next (pc' := 115) rfl rfl ?_
    exact e_iret rfl h
  · replace h := h.2 hc
    refine e_next (pc' := 62) rfl rfl ?_
    refine e_bipush (pc' := 64) rfl rfl kb_32 ?_
    refine e_next (pc' := 65) rfl rfl ?_
    refine e_next (pc' := 66) rfl rfl ?_
    refine e_bipush (pc' := 68) rfl rfl kb_8 ?_
    refine e_next (pc' := 69) rfl rfl ?_
    refine e_getI (pc' := 72) rfl (Or.inl rfl) rfl (hs.o rfl) ?_
    refine e_next (pc' := 73) rfl rfl ?_
    refine e_next (pc' := 74) rfl rfl ?_
    refine e_next (pc' := 75) rfl rfl ?_
    refine e_ciV (pc' := 78) rfl (e_sV (as := [_, _]) (fun _ => rfl) (Or.inl rfl) rfl (hs.o rfl) rfl rfl (Nat.le_of_ble_eq_true rfl) (Nat.le_of_ble_eq_true rfl) rfl) rfl rfl ?_
    refine qev.mono h (fun v _ I1 _ h => ?_)
    obtain ⟨rfl, h⟩ := h
    refine ⟨rfl, ?_⟩
    refine e_iinc (pc' := 81) (ls' := [_, _, _]) (v := (nI 1)) rfl rfl kc_1 rfl rfl ?_
    refine e_next (pc' := 51) rfl rfl ?_
    exact h
theorem w176_134 {d : Nat} {i1 : Int32} {i2 : Int32} {g : qG} {I : qI} {J : qJ} {Q : qQ} (hs : qSh g)  (h : (((nI 381) ≤ i2 → Q (some (.int ((qw (qw I 105 22 (nI 0)) 105 23 (nI 0)) 105 7))) g (qw (qw I 105 22 (nI 0)) 105 23 (nI 0)) J) ∧ (¬ (nI 381) ≤ i2 → ∃ k1, i2 = nI k1 ∧ k1 < 381 ∧ qev (d + 1) 176 (134, [.ref 105, .int i1, .int (i2 + (nI 1))], [], g, (qw I 111 k1 (nI 0)), J) Q))) : qev (d + 1) 176 (134, [.ref 105, .int i1, .int i2], [], g, I, J) Q := by
  refine e_next (pc' := 135) rfl rfl ?_
  refine e_sipush (pc' := 138) rfl rfl ks_381 ?_
  refine e_icmp ((nI 381) ≤ i2) (pc' := 141) rfl rfl e_d (fun hc => ?_) (fun hc => ?_)
  · replace h := h.1 hc
    refine e_next (pc' := 155) rfl rfl ?_
    refine e_iconst (pc' := 156) rfl rfl kc_0 ?_
    refine e_putI (pc' := 159) rfl rfl (hs.o rfl) ?_
    refine e_next (pc' := 160) rfl rfl ?_
    refine e_iconst (pc' := 161) rfl rfl kc_0 ?_
    refine e_putZ (pc' := 164) rfl rfl (hs.o rfl) (Or.inl nI_0) ?_
    refine e_next (pc' := 165) rfl rfl ?_
    refine e_getI (pc' := 168) rfl (Or.inl rfl) rfl (hs.o rfl) ?_
    exact e_iret rfl h
  · replace h := h.2 hc
    refine e_next (pc' := 142) rfl rfl ?_
    refine e_getR (pc' := 145) rfl rfl (hs.o rfl) (hs.a rfl) ?_
    refine e_next (pc' := 146) rfl rfl ?_
    refine e_iconst (pc' := 147) rfl rfl kc_0 ?_
    obtain ⟨k1, hi_k1, hj_k1, h⟩ := h
    refine e_iast k1 (pc' := 148) rfl rfl (hs.k rfl) hi_k1 hj_k1 (by decide) ?_
    refine e_iinc (pc' := 151) (ls' := [_, _, _]) (v := (nI 1)) rfl rfl kc_1 rfl rfl ?_
    refine e_next (pc' := 134) rfl rfl ?_
    exact h
theorem w177 {d : Nat} {x1 : Nat} {n_x1 : Nat} {x2 : Int32} {x3 : Nat} {n_x3 : Nat} {x4 : Int32} {g : qG} {I : qI} {J : qJ} {Q : qQ} (hk_x1 : g.1 x1 = some (100, n_x1)) (hn_x1 : n_x1 < 2 ^ 31) (hk_x3 : g.1 x3 = some (100, n_x3)) (hn_x3 : n_x3 < 2 ^ 31) (h : qev d 177 (3, [.ref x1, .int x2, .ref x3, .int x4, .int (nI 0)], [], g, I, J) Q) : qC d 177 [.ref x1, .int x2, .ref x3, .int x4] g I J Q := by
  show qev d 177 (0, [.ref x1, .int x2, .ref x3, .int x4, qpad], [], g, I, J) Q
  refine e_iconst (pc' := 1) rfl rfl kc_0 ?_
  refine e_next (pc' := 3) (ls' := [_, _, _, _, _]) rfl rfl ?_
  exact h
theorem w177_3 {d : Nat} {x1 : Nat} {n_x1 : Nat} {i1 : Int32} {x3 : Nat} {n_x3 : Nat} {i3 : Int32} {i4 : Int32} {g : qG} {I : qI} {J : qJ} {Q : qQ} (hk_x1 : g.1 x1 = some (100, n_x1)) (hn_x1 : n_x1 < 2 ^ 31) (hk_x3 : g.1 x3 = some (100, n_x3)) (hn_x3 : n_x3 < 2 ^ 31) (h : (((nI 381) ≤ i4 → Q none g I J) ∧ (¬ (nI 381) ≤ i4 → ∃ k1, (i1 + i4) = nI k1 ∧ k1 < n_x1 ∧ ∃ k2, (i3 + i4) = nI k2 ∧ k2 < n_x3 ∧ qev d 177 (3, [.ref x1, .int i1, .ref x3, .int i3, .int (i4 + (nI 1))], [], g, (qw I x3 k2 (I x1 k1)), J) Q))) : qev d 177 (3, [.ref x1, .int i1, .ref x3, .int i3, .int i4], [], g, I, J) Q := by
  refine e_next (pc' := 5) rfl rfl ?_
  refine e_sipush (pc' := 8) rfl rfl ks_381 ?_
  refine e_icmp ((nI 381) ≤ i4) (pc' := 11) rfl rfl e_d (fun hc => ?_) (fun hc => ?_)
  · replace h := h.1 hc
    exact qev_ret rfl rfl h
  · replace h := h.2 hc
    refine e_next (pc' := 12) rfl rfl ?_
    refine e_next (pc' := 13) rfl rfl ?_
    refine e_next (pc' := 15) rfl rfl ?_
    refine e_next (pc' := 16) rfl rfl ?_
    refine e_next (pc' := 17) rfl rfl ?_
    refine e_next (pc' := 18) rfl rfl ?_
    refine e_next (pc' := 20) rfl rfl ?_
    refine e_next (pc' := 21) rfl rfl ?_
    obtain ⟨k1, hi_k1, hj_k1, h⟩ := h
    refine e_iald k1 (pc' := 22) rfl rfl hk_x1 hi_k1 hj_k1 hn_x1 ?_
    obtain ⟨k2, hi_k2, hj_k2, h⟩ := h
    refine e_iast k2 (pc' := 23) rfl rfl hk_x3 hi_k2 hj_k2 hn_x3 ?_
    refine e_iinc (pc' := 26) (ls' := [_, _, _, _, _]) (v := (nI 1)) rfl rfl kc_1 rfl rfl ?_
    refine e_next (pc' := 3) rfl rfl ?_
    exact h
theorem w178 {d : Nat} {x1 : Int64} {g : qG} {I : qI} {J : qJ} {Q : qQ} (hs : qSh g)  (h : ¬ (Int32.toInt64 (I 105 7)) = 0 ∧ ((0 ≤ (lg_cmp (qremL x1 (Int32.toInt64 (I 105 7))) (lN 0)) → Q (some (.int (Int64.toInt32 (qremL x1 (Int32.toInt64 (I 105 7)))))) g I J) ∧ (¬ 0 ≤ (lg_cmp (qremL x1 (Int32.toInt64 (I 105 7))) (lN 0)) → Q (some (.int (Int64.toInt32 ((qremL x1 (Int32.toInt64 (I 105 7))) + (Int32.toInt64 (I 105 7)))))) g I J))) : qC d 178 [.ref 105, .long x1] g I J Q := by
  show qev d 178 (0, [.ref 105, .long x1, qpad, qpad, qpad], [], g, I, J) Q
  refine e_next (pc' := 1) rfl rfl ?_
  refine e_next (pc' := 2) rfl rfl ?_
  refine e_getI (pc' := 5) rfl (Or.inl rfl) rfl (hs.o rfl) ?_
  refine e_next (pc' := 6) rfl rfl ?_
  obtain ⟨hz1, h⟩ := h
  refine e_lrem (pc' := 7) rfl rfl hz1 ?_
  refine e_next (pc' := 8) (ls' := [_, _, _, _, _]) rfl rfl ?_
  refine e_next (pc' := 9) rfl rfl ?_
  refine e_lconst (pc' := 10) rfl rfl kl_0 ?_
  refine e_next (pc' := 11) rfl rfl ?_
  refine e_if (0 ≤ (lg_cmp (qremL x1 (Int32.toInt64 (I 105 7))) (lN 0))) (pc' := 14) rfl rfl e_d (fun hc => ?_) (fun hc => ?_)
  · replace h := h.1 hc
    refine e_next (pc' := 25) rfl rfl ?_
    refine e_next (pc' := 26) rfl rfl ?_
    exact e_iret rfl h
  · replace h := h.2 hc
    refine e_next (pc' := 15) rfl rfl ?_
    refine e_next (pc' := 16) rfl rfl ?_
    refine e_getI (pc' := 19) rfl (Or.inl rfl) rfl (hs.o rfl) ?_
    refine e_next (pc' := 20) rfl rfl ?_
    refine e_next (pc' := 21) rfl rfl ?_
    refine e_next (pc' := 25) rfl rfl ?_
    refine e_next (pc' := 26) rfl rfl ?_
    exact e_iret rfl h
theorem w179 {d : Nat} {x1 : Int32} {g : qG} {I : qI} {J : qJ} {Q : qQ}  (h : qev d 179 (4, [.ref 105, .int x1, .int (nI 1), .int (nI 0)], [], g, I, J) Q) : qC d 179 [.ref 105, .int x1] g I J Q := by
  show qev d 179 (0, [.ref 105, .int x1, qpad, qpad], [], g, I, J) Q
  refine e_iconst (pc' := 1) rfl rfl kc_1 ?_
  refine e_next (pc' := 2) (ls' := [_, _, _, _]) rfl rfl ?_
  refine e_iconst (pc' := 3) rfl rfl kc_0 ?_
  refine e_next (pc' := 4) (ls' := [_, _, _, _]) rfl rfl ?_
  exact h
theorem w179_4 {d : Nat} {i1 : Int32} {i2 : Int32} {i3 : Int32} {g : qG} {I : qI} {J : qJ} {Q : qQ} (hs : qSh g)  (h : ((((I 105 7) - (nI 2)) ≤ i3 → Q (some (.int i2)) g I J) ∧ (¬ ((I 105 7) - (nI 2)) ≤ i3 → ¬ (I 105 7) = 0 ∧ qev d 179 (4, [.ref 105, .int i1, .int (qrem (i2 * i1) (I 105 7)), .int (i3 + (nI 1))], [], g, I, J) Q))) : qev d 179 (4, [.ref 105, .int i1, .int i2, .int i3], [], g, I, J) Q := by
  refine e_next (pc' := 5) rfl rfl ?_
  refine e_next (pc' := 6) rfl rfl ?_
  refine e_getI (pc' := 9) rfl (Or.inl rfl) rfl (hs.o rfl) ?_
  refine e_iconst (pc' := 10) rfl rfl kc_2 ?_
  refine e_next (pc' := 11) rfl rfl ?_
  refine e_icmp (((I 105 7) - (nI 2)) ≤ i3) (pc' := 14) rfl rfl e_d (fun hc => ?_) (fun hc => ?_)
  · replace h := h.1 hc
    refine e_next (pc' := 30) rfl rfl ?_
    exact e_iret rfl h
  · replace h := h.2 hc
    refine e_next (pc' := 15) rfl rfl ?_
    refine e_next (pc' := 16) rfl rfl ?_
    refine e_next (pc' := 17) rfl rfl ?_
    refine e_next (pc' := 18) rfl rfl ?_
    refine e_getI (pc' := 21) rfl (Or.inl rfl) rfl (hs.o rfl) ?_
    obtain ⟨hz1, h⟩ := h
    refine e_irem (pc' := 22) rfl rfl hz1 ?_
    refine e_next (pc' := 23) (ls' := [_, _, _, _]) rfl rfl ?_
    refine e_iinc (pc' := 26) (ls' := [_, _, _, _]) (v := (nI 1)) rfl rfl kc_1 rfl rfl ?_
    refine e_next (pc' := 4) rfl rfl ?_
    exact h
theorem w180 {d : Nat} {x1 : Int32} {g : qG} {I : qI} {J : qJ} {Q : qQ} (hs : qSh g)  (h : ∃ k1, ((nI 25) * x1) = nI k1 ∧ k1 < 1200 ∧ Q (some (.int (I 115 k1))) g I J) : qC d 180 [.ref 105, .int x1] g I J Q := by
  show qev d 180 (0, [.ref 105, .int x1], [], g, I, J) Q
  refine e_next (pc' := 1) rfl rfl ?_
  refine e_getR (pc' := 4) rfl rfl (hs.o rfl) (hs.a rfl) ?_
  refine e_bipush (pc' := 6) rfl rfl kb_25 ?_
  refine e_next (pc' := 7) rfl rfl ?_
  refine e_next (pc' := 8) rfl rfl ?_
  obtain ⟨k1, hi_k1, hj_k1, h⟩ := h
  refine e_iald k1 (pc' := 9) rfl rfl (hs.k rfl) hi_k1 hj_k1 (by decide) ?_
  exact e_iret rfl h
theorem w181 {d : Nat} {x1 : Int32} {x2 : Int32} {g : qG} {I : qI} {J : qJ} {Q : qQ} (hs : qSh g)  (h : ∃ k1, ((nI 25) * x1) = nI k1 ∧ k1 < 1200 ∧ Q none g (qw I 115 k1 x2) J) : qC d 181 [.ref 105, .int x1, .int x2] g I J Q := by
  show qev d 181 (0, [.ref 105, .int x1, .int x2], [], g, I, J) Q
  refine e_next (pc' := 1) rfl rfl ?_
  refine e_getR (pc' := 4) rfl rfl (hs.o rfl) (hs.a rfl) ?_
  refine e_bipush (pc' := 6) rfl rfl kb_25 ?_
  refine e_next (pc' := 7) rfl rfl ?_
  refine e_next (pc' := 8) rfl rfl ?_
  refine e_next (pc' := 9) rfl rfl ?_
  obtain ⟨k1, hi_k1, hj_k1, h⟩ := h
  refine e_iast k1 (pc' := 10) rfl rfl (hs.k rfl) hi_k1 hj_k1 (by decide) ?_
  exact qev_ret rfl rfl h
theorem w182 {d : Nat} {x1 : Int32} {x2 : Int32} {g : qG} {I : qI} {J : qJ} {Q : qQ} (hs : qSh g)  (h : ∃ k1, ((nI 25) * x1) = nI k1 ∧ k1 < 1200 ∧ (((I 115 k1) ≤ x2 → Q (some (.int (nI 0))) g I J) ∧ (¬ (I 115 k1) ≤ x2 → ∃ k2, ((((nI 25) * x1) + (nI 1)) + x2) = nI k2 ∧ k2 < 1200 ∧ Q (some (.int (I 115 k2))) g I J))) : qC d 182 [.ref 105, .int x1, .int x2] g I J Q := by
  show qev d 182 (0, [.ref 105, .int x1, .int x2], [], g, I, J) Q
  refine e_next (pc' := 1) rfl rfl ?_
  refine e_next (pc' := 2) rfl rfl ?_
  refine e_getR (pc' := 5) rfl rfl (hs.o rfl) (hs.a rfl) ?_
  refine e_bipush (pc' := 7) rfl rfl kb_25 ?_
  refine e_next (pc' := 8) rfl rfl ?_
  refine e_next (pc' := 9) rfl rfl ?_
  obtain ⟨k1, hi_k1, hj_k1, h⟩ := h
  refine e_iald k1 (pc' := 10) rfl rfl (hs.k rfl) hi_k1 hj_k1 (by decide) ?_
  refine e_icmp ((I 115 k1) ≤ x2) (pc' := 13) rfl rfl e_d (fun hc => ?_) (fun hc => ?_)
  · replace h := h.1 hc
    refine e_iconst (pc' := 30) rfl rfl kc_0 ?_
    exact e_iret rfl h
  · replace h := h.2 hc
    refine e_next (pc' := 14) rfl rfl ?_
    refine e_getR (pc' := 17) rfl rfl (hs.o rfl) (hs.a rfl) ?_
    refine e_bipush (pc' := 19) rfl rfl kb_25 ?_
    refine e_next (pc' := 20) rfl rfl ?_
    refine e_next (pc' := 21) rfl rfl ?_
    refine e_iconst (pc' := 22) rfl rfl kc_1 ?_
    refine e_next (pc' := 23) rfl rfl ?_
    refine e_next (pc' := 24) rfl rfl ?_
    refine e_next (pc' := 25) rfl rfl ?_
    obtain ⟨k2, hi_k2, hj_k2, h⟩ := h
    refine e_iald k2 (pc' := 26) rfl rfl (hs.k rfl) hi_k2 hj_k2 (by decide) ?_
    refine e_next (pc' := 30) rfl rfl ?_
    exact e_iret rfl h
theorem w183 {d : Nat} {x1 : Int32} {x2 : Int32} {x3 : Int32} {g : qG} {I : qI} {J : qJ} {Q : qQ} (hs : qSh g)  (h : ∃ k1, ((((nI 25) * x1) + (nI 1)) + x2) = nI k1 ∧ k1 < 1200 ∧ Q none g (qw I 115 k1 x3) J) : qC d 183 [.ref 105, .int x1, .int x2, .int x3] g I J Q := by
  show qev d 183 (0, [.ref 105, .int x1, .int x2, .int x3], [], g, I, J) Q
  refine e_next (pc' := 1) rfl rfl ?_
  refine e_getR (pc' := 4) rfl rfl (hs.o rfl) (hs.a rfl) ?_
  refine e_bipush (pc' := 6) rfl rfl kb_25 ?_
  refine e_next (pc' := 7) rfl rfl ?_
  refine e_next (pc' := 8) rfl rfl ?_
  refine e_iconst (pc' := 9) rfl rfl kc_1 ?_
  refine e_next (pc' := 10) rfl rfl ?_
  refine e_next (pc' := 11) rfl rfl ?_
  refine e_next (pc' := 12) rfl rfl ?_
  refine e_next (pc' := 13) rfl rfl ?_
  obtain ⟨k1, hi_k1, hj_k1, h⟩ := h
  refine e_iast k1 (pc' := 14) rfl rfl (hs.k rfl) hi_k1 hj_k1 (by decide) ?_
  exact qev_ret rfl rfl h
theorem w184 {d : Nat} {x1 : Int32} {x2 : Int32} {g : qG} {I : qI} {J : qJ} {Q : qQ}  (h : qev d 184 (2, [.ref 105, .int x1, .int x2, .int (nI 0)], [], g, I, J) Q) : qC d 184 [.ref 105, .int x1, .int x2] g I J Q := by
  show qev d 184 (0, [.ref 105, .int x1, .int x2, qpad], [], g, I, J) Q
  refine e_iconst (pc' := 1) rfl rfl kc_0 ?_
  refine e_next (pc' := 2) (ls' := [_, _, _, _]) rfl rfl ?_
  exact h
theorem w184_2 {d : Nat} {i1 : Int32} {i2 : Int32} {i3 : Int32} {g : qG} {I : qI} {J : qJ} {Q : qQ} (hs : qSh g)  (h : (((nI 25) ≤ i3 → Q none g I J) ∧ (¬ (nI 25) ≤ i3 → ∃ k1, (((nI 25) * i1) + i3) = nI k1 ∧ k1 < 1200 ∧ ∃ k2, (((nI 25) * i2) + i3) = nI k2 ∧ k2 < 1200 ∧ qev d 184 (2, [.ref 105, .int i1, .int i2, .int (i3 + (nI 1))], [], g, (qw I 115 k2 (I 115 k1)), J) Q))) : qev d 184 (2, [.ref 105, .int i1, .int i2, .int i3], [], g, I, J) Q := by
  refine e_next (pc' := 3) rfl rfl ?_
  refine e_bipush (pc' := 5) rfl rfl kb_25 ?_
  refine e_icmp ((nI 25) ≤ i3) (pc' := 8) rfl rfl e_d (fun hc => ?_) (fun hc => ?_)
  · replace h := h.1 hc
    exact qev_ret rfl rfl h
  · replace h := h.2 hc
    refine e_next (pc' := 9) rfl rfl ?_
    refine e_getR (pc' := 12) rfl rfl (hs.o rfl) (hs.a rfl) ?_
    refine e_bipush (pc' := 14) rfl rfl kb_25 ?_
    refine e_next (pc' := 15) rfl rfl ?_
    refine e_next (pc' := 16) rfl rfl ?_
    refine e_next (pc' := 17) rfl rfl ?_
    refine e_next (pc' := 18) rfl rfl ?_
    refine e_next (pc' := 19) rfl rfl ?_
    refine e_getR (pc' := 22) rfl rfl (hs.o rfl) (hs.a rfl) ?_
    refine e_bipush (pc' := 24) rfl rfl kb_25 ?_
    refine e_next (pc' := 25) rfl rfl ?_
    refine e_next (pc' := 26) rfl rfl ?_
    refine e_next (pc' := 27) rfl rfl ?_
    refine e_next (pc' := 28) rfl rfl ?_
    obtain ⟨k1, hi_k1, hj_k1, h⟩ := h
    refine e_iald k1 (pc' := 29) rfl rfl (hs.k rfl) hi_k1 hj_k1 (by decide) ?_
    obtain ⟨k2, hi_k2, hj_k2, h⟩ := h
    refine e_iast k2 (pc' := 30) rfl rfl (hs.k rfl) hi_k2 hj_k2 (by decide) ?_
    refine e_iinc (pc' := 33) (ls' := [_, _, _, _]) (v := (nI 1)) rfl rfl kc_1 rfl rfl ?_
    refine e_next (pc' := 2) rfl rfl ?_
    exact h
theorem w185 {d : Nat} {x1 : Int32} {g : qG} {I : qI} {J : qJ} {Q : qQ}  (h : qev (d + 1) 185 (2, [.ref 105, .int x1, .int (nI 0)], [], g, I, J) Q) : qC (d + 1) 185 [.ref 105, .int x1] g I J Q := by
  show qev (d + 1) 185 (0, [.ref 105, .int x1, qpad], [], g, I, J) Q
  refine e_iconst (pc' := 1) rfl rfl kc_0 ?_
  refine e_next (pc' := 2) (ls' := [_, _, _]) rfl rfl ?_
  exact h
theorem w185_2 {d : Nat} {i1 : Int32} {i2 : Int32} {g : qG} {I : qI} {J : qJ} {Q : qQ} (hs : qSh g)  (h : qC d 180 [.ref 105, .int i1] g I J (fun v _ _ _ => ∃ r1, v = some (.int r1) ∧ ((r1 ≤ i2 → Q (some (.int i2)) g I J) ∧ (¬ r1 ≤ i2 → qC d 182 [.ref 105, .int i1, .int i2] g I J (fun v _ _ _ => ∃ r2, v = some (.int r2) ∧ ((r2 = 0 → qev (d + 1) 185 (2, [.ref 105, .int i1, .int (i2 + (nI 1))], [], g, I, J) Q) ∧ (¬ r2 = 0 → Q (some (.int i2)) g I J))))))) : qev (d + 1) 185 (2, [.ref 105, .int i1, .int i2], [], g, I, J) Q := by
  refine e_next (pc' := 3) rfl rfl ?_
  refine e_next (pc' := 4) rfl rfl ?_
  refine e_next (pc' := 5) rfl rfl ?_
  refine e_cpI (pc' := 8) rfl (e_sV (as := [_]) (fun _ => rfl) (Or.inl rfl) rfl (hs.o rfl) rfl rfl (Nat.le_of_ble_eq_true rfl) (Nat.le_of_ble_eq_true rfl) rfl) rfl rfl rfl ?_
  refine qev.mono h (fun v _ _ _ h => ?_)
  obtain ⟨r1, rfl, h⟩ := h
  refine ⟨r1, rfl, ?_⟩
  refine e_icmp (r1 ≤ i2) (pc' := 11) rfl rfl e_d (fun hc => ?_) (fun hc => ?_)
  · replace h := h.1 hc
    refine e_next (pc' := 27) rfl rfl ?_
    exact e_iret rfl h
  · replace h := h.2 hc
    refine e_next (pc' := 12) rfl rfl ?_
    refine e_next (pc' := 13) rfl rfl ?_
    refine e_next (pc' := 14) rfl rfl ?_
    refine e_cpI (pc' := 17) rfl (e_sV (as := [_, _]) (fun _ => rfl) (Or.inl rfl) rfl (hs.o rfl) rfl rfl (Nat.le_of_ble_eq_true rfl) (Nat.le_of_ble_eq_true rfl) rfl) rfl rfl rfl ?_
    refine qev.mono h (fun v _ _ _ h => ?_)
    obtain ⟨r2, rfl, h⟩ := h
    refine ⟨r2, rfl, ?_⟩
    refine e_if (¬ r2 = 0) (pc' := 20) rfl rfl e_d (fun hc => ?_) (fun hc => ?_)
    · replace h := h.2 hc
      refine e_next (pc' := 27) rfl rfl ?_
      exact e_iret rfl h
    · replace h := h.1 (Decidable.not_not.mp hc)
      refine e_iinc (pc' := 23) (ls' := [_, _, _]) (v := (nI 1)) rfl rfl kc_1 rfl rfl ?_
      refine e_next (pc' := 2) rfl rfl ?_
      exact h
theorem w186 {d : Nat} {x1 : Int32} {x2 : Int32} {g : qG} {I : qI} {J : qJ} {Q : qQ}  (h : ((x2 ≤ x1 → Q (some (.int x2)) g I J) ∧ (¬ x2 ≤ x1 → Q (some (.int x1)) g I J))) : qC d 186 [.int x1, .int x2] g I J Q := by
  show qev d 186 (0, [.int x1, .int x2], [], g, I, J) Q
  refine e_next (pc' := 1) rfl rfl ?_
  refine e_next (pc' := 2) rfl rfl ?_
  refine e_icmp (x2 ≤ x1) (pc' := 5) rfl rfl e_d (fun hc => ?_) (fun hc => ?_)
  · replace h := h.1 hc
    refine e_next (pc' := 10) rfl rfl ?_
    exact e_iret rfl h
  · replace h := h.2 hc
    refine e_next (pc' := 6) rfl rfl ?_
    refine e_next (pc' := 10) rfl rfl ?_
    exact e_iret rfl h
theorem w187 {d : Nat} {x1 : Int32} {x2 : Int32} {g : qG} {I : qI} {J : qJ} {Q : qQ} (hs : qSh g)  (h : qC d 181 [.ref 105, .int x1, .int (I 105 8)] g I J (fun v _ I1 _ => v = none ∧ qev (d + 1) 187 (11, [.ref 105, .int x1, .int x2, .int (nI 0)], [], g, I1, J) Q)) : qC (d + 1) 187 [.ref 105, .int x1, .int x2] g I J Q := by
  show qev (d + 1) 187 (0, [.ref 105, .int x1, .int x2, qpad], [], g, I, J) Q
  refine e_next (pc' := 1) rfl rfl ?_
  refine e_next (pc' := 2) rfl rfl ?_
  refine e_next (pc' := 3) rfl rfl ?_
  refine e_getI (pc' := 6) rfl (Or.inl rfl) rfl (hs.o rfl) ?_
  refine e_ciV (pc' := 9) rfl (e_sV (as := [_, _]) (fun _ => rfl) (Or.inl rfl) rfl (hs.o rfl) rfl rfl (Nat.le_of_ble_eq_true rfl) (Nat.le_of_ble_eq_true rfl) rfl) rfl rfl ?_
  refine qev.mono h (fun v _ I1 _ h => ?_)
  obtain ⟨rfl, h⟩ := h
  refine ⟨rfl, ?_⟩
  refine e_iconst (pc' := 10) rfl rfl kc_0 ?_
  refine e_next (pc' := 11) (ls' := [_, _, _, _]) rfl rfl ?_
  exact h
theorem w187_11 {d : Nat} {i1 : Int32} {i2 : Int32} {i3 : Int32} {g : qG} {I : qI} {J : qJ} {Q : qQ} (hs : qSh g)  (h : (((I 105 8) ≤ i3 → Q none g I J) ∧ (¬ (I 105 8) ≤ i3 → ((i3 = 0 → qC d 183 [.ref 105, .int i1, .int i3, .int i2] g I J (fun v _ I2 _ => v = none ∧ qev (d + 1) 187 (11, [.ref 105, .int i1, .int i2, .int (i3 + (nI 1))], [], g, I2, J) Q)) ∧ (¬ i3 = 0 → qC d 183 [.ref 105, .int i1, .int i3, .int (nI 0)] g I J (fun v _ I1 _ => v = none ∧ qev (d + 1) 187 (11, [.ref 105, .int i1, .int i2, .int (i3 + (nI 1))], [], g, I1, J) Q)))))) : qev (d + 1) 187 (11, [.ref 105, .int i1, .int i2, .int i3], [], g, I, J) Q := by
  refine e_next (pc' := 12) rfl rfl ?_
  refine e_next (pc' := 13) rfl rfl ?_
  refine e_getI (pc' := 16) rfl (Or.inl rfl) rfl (hs.o rfl) ?_
  refine e_icmp ((I 105 8) ≤ i3) (pc' := 19) rfl rfl e_d (fun hc => ?_) (fun hc => ?_)
  · replace h := h.1 hc
    exact qev_ret rfl rfl h
  · replace h := h.2 hc
    refine e_next (pc' := 20) rfl rfl ?_
    refine e_next (pc' := 21) rfl rfl ?_
    refine e_next (pc' := 22) rfl rfl ?_
    refine e_next (pc' := 23) rfl rfl ?_
    refine e_if (¬ i3 = 0) (pc' := 26) rfl rfl e_d (fun hc => ?_) (fun hc => ?_)
    · replace h := h.2 hc
      refine e_iconst (pc' := 31) rfl rfl kc_0 ?_
      refine e_ciV (pc' := 34) rfl (e_sV (as := [_, _, _]) (fun _ => rfl) (Or.inl rfl) rfl (hs.o rfl) rfl rfl (Nat.le_of_ble_eq_true rfl) (Nat.le_of_ble_eq_true rfl) rfl) rfl rfl ?_
      refine qev.mono h (fun v _ I1 _ h => ?_)
      obtain ⟨rfl, h⟩ := h
      refine ⟨rfl, ?_⟩
      refine e_iinc (pc' := 37) (ls' := [_, _, _, _]) (v := (nI 1)) rfl rfl kc_1 rfl rfl ?_
      refine e_next (pc' := 11) rfl rfl ?_
      exact h
    · replace h := h.1 (Decidable.not_not.mp hc)
      refine e_next (pc' := 27) rfl rfl ?_
      refine e_next (pc' := 31) rfl rfl ?_
      refine e_ciV (pc' := 34) rfl (e_sV (as := [_, _, _]) (fun _ => rfl) (Or.inl rfl) rfl (hs.o rfl) rfl rfl (Nat.le_of_ble_eq_true rfl) (Nat.le_of_ble_eq_true rfl) rfl) rfl rfl ?_
      refine qev.mono h (fun v _ I2 _ h => ?_)
      obtain ⟨rfl, h⟩ := h
      refine ⟨rfl, ?_⟩
      refine e_iinc (pc' := 37) (ls' := [_, _, _, _]) (v := (nI 1)) rfl rfl kc_1 rfl rfl ?_
      refine e_next (pc' := 11) rfl rfl ?_
      exact h
theorem w188 {d : Nat} {x1 : Int32} {x2 : Int32} {x3 : Int32} {g : qG} {I : qI} {J : qJ} {Q : qQ}  (h : qev (d + 1) 188 (6, [.ref 105, .int x1, .int x2, .int x3, .long (lN 0), qpad, .int (nI 0)], [], g, I, J) Q) : qC (d + 1) 188 [.ref 105, .int x1, .int x2, .int x3] g I J Q := by
  show qev (d + 1) 188 (0, [.ref 105, .int x1, .int x2, .int x3, qpad, qpad, qpad], [], g, I, J) Q
  refine e_lconst (pc' := 1) rfl rfl kl_0 ?_
  refine e_next (pc' := 3) (ls' := [_, _, _, _, _, _, _]) rfl rfl ?_
  refine e_iconst (pc' := 4) rfl rfl kc_0 ?_
  refine e_next (pc' := 6) (ls' := [_, _, _, _, _, _, _]) rfl rfl ?_
  exact h
theorem w188_6 {d : Nat} {i1 : Int32} {i2 : Int32} {i3 : Int32} {j4 : Int64} {i6 : Int32} {g : qG} {I : qI} {J : qJ} {Q : qQ} (hs : qSh g)  (h : ((i3 < i6 → Q (some (.long j4)) g I J) ∧ (¬ i3 < i6 → qC d 182 [.ref 105, .int i1, .int i6] g I J (fun v _ _ _ => ∃ r1, v = some (.int r1) ∧ qC d 182 [.ref 105, .int i2, .int (i3 - i6)] g I J (fun v _ _ _ => ∃ r2, v = some (.int r2) ∧ qev (d + 1) 188 (6, [.ref 105, .int i1, .int i2, .int i3, .long (j4 + (Int32.toInt64 (r1 * r2))), qpad, .int (i6 + (nI 1))], [], g, I, J) Q))))) : qev (d + 1) 188 (6, [.ref 105, .int i1, .int i2, .int i3, .long j4, qpad, .int i6], [], g, I, J) Q := by
  refine e_next (pc' := 8) rfl rfl ?_
  refine e_next (pc' := 9) rfl rfl ?_
  refine e_icmp (i3 < i6) (pc' := 12) rfl rfl e_d (fun hc => ?_) (fun hc => ?_)
  · replace h := h.1 hc
    refine e_next (pc' := 43) rfl rfl ?_
    exact qev_ret rfl rfl h
  · replace h := h.2 hc
    refine e_next (pc' := 14) rfl rfl ?_
    refine e_next (pc' := 15) rfl rfl ?_
    refine e_next (pc' := 16) rfl rfl ?_
    refine e_next (pc' := 18) rfl rfl ?_
    refine e_cpI (pc' := 21) rfl (e_sV (as := [_, _]) (fun _ => rfl) (Or.inl rfl) rfl (hs.o rfl) rfl rfl (Nat.le_of_ble_eq_true rfl) (Nat.le_of_ble_eq_true rfl) rfl) rfl rfl rfl ?_
    refine qev.mono h (fun v _ _ _ h => ?_)
    obtain ⟨r1, rfl, h⟩ := h
    refine ⟨r1, rfl, ?_⟩
    refine e_next (pc' := 22) rfl rfl ?_
    refine e_next (pc' := 23) rfl rfl ?_
    refine e_next (pc' := 24) rfl rfl ?_
    refine e_next (pc' := 26) rfl rfl ?_
    refine e_next (pc' := 27) rfl rfl ?_
    refine e_cpI (pc' := 30) rfl (e_sV (as := [_, _]) (fun _ => rfl) (Or.inl rfl) rfl (hs.o rfl) rfl rfl (Nat.le_of_ble_eq_true rfl) (Nat.le_of_ble_eq_true rfl) rfl) rfl rfl rfl ?_
    refine qev.mono h (fun v _ _ _ h => ?_)
    obtain ⟨r2, rfl, h⟩ := h
    refine ⟨r2, rfl, ?_⟩
    refine e_next (pc' := 31) rfl rfl ?_
    refine e_next (pc' := 32) rfl rfl ?_
    refine e_next (pc' := 33) rfl rfl ?_
    refine e_next (pc' := 35) (ls' := [_, _, _, _, _, _, _]) rfl rfl ?_
    refine e_iinc (pc' := 38) (ls' := [_, _, _, _, _, _, _]) (v := (nI 1)) rfl rfl kc_1 rfl rfl ?_
    refine e_next (pc' := 6) rfl rfl ?_
    exact h
theorem w189 {d : Nat} {x1 : Int32} {x2 : Int32} {x3 : Int32} {g : qG} {I : qI} {J : qJ} {Q : qQ} (hs : qSh g)  (h : qC d 185 [.ref 105, .int x1] g I J (fun v _ _ _ => ∃ r1, v = some (.int r1) ∧ qC d 180 [.ref 105, .int x2] g I J (fun v _ _ _ => ∃ r2, v = some (.int r2) ∧ qC d 185 [.ref 105, .int x2] g I J (fun v _ _ _ => ∃ r3, v = some (.int r3) ∧ qC d 180 [.ref 105, .int x1] g I J (fun v _ _ _ => ∃ r4, v = some (.int r4) ∧ qC d 186 [.int (r1 + r2), .int (r3 + r4)] g I J (fun v _ _ _ => ∃ r5, v = some (.int r5) ∧ qC d 186 [.int (I 105 8), .int r5] g I J (fun v _ _ _ => ∃ r6, v = some (.int r6) ∧ qC d 181 [.ref 105, .int x3, .int r6] g I J (fun v _ I1 _ => v = none ∧ qev (d + 1) 189 (44, [.ref 105, .int x1, .int x2, .int x3, .int r6, .int (nI 0)], [], g, I1, J) Q)))))))) : qC (d + 1) 189 [.ref 105, .int x1, .int x2, .int x3] g I J Q := by
  show qev (d + 1) 189 (0, [.ref 105, .int x1, .int x2, .int x3, qpad, qpad], [], g, I, J) Q
  refine e_next (pc' := 1) rfl rfl ?_
  refine e_getI (pc' := 4) rfl (Or.inl rfl) rfl (hs.o rfl) ?_
  refine e_next (pc' := 5) rfl rfl ?_
  refine e_next (pc' := 6) rfl rfl ?_
  refine e_cpI (pc' := 9) rfl (e_sV (as := [_]) (fun _ => rfl) (Or.inl rfl) rfl (hs.o rfl) rfl rfl (Nat.le_of_ble_eq_true rfl) (Nat.le_of_ble_eq_true rfl) rfl) rfl rfl rfl ?_
  refine qev.mono h (fun v _ _ _ h => ?_)
  obtain ⟨r1, rfl, h⟩ := h
  refine ⟨r1, rfl, ?_⟩
  refine e_next (pc' := 10) rfl rfl ?_
  refine e_next (pc' := 11) rfl rfl ?_
  refine e_cpI (pc' := 14) rfl (e_sV (as := [_]) (fun _ => rfl) (Or.inl rfl) rfl (hs.o rfl) rfl rfl (Nat.le_of_ble_eq_true rfl) (Nat.le_of_ble_eq_true rfl) rfl) rfl rfl rfl ?_
  refine qev.mono h (fun v _ _ _ h => ?_)
  obtain ⟨r2, rfl, h⟩ := h
  refine ⟨r2, rfl, ?_⟩
  refine e_next (pc' := 15) rfl rfl ?_
  refine e_next (pc' := 16) rfl rfl ?_
  refine e_next (pc' := 17) rfl rfl ?_
  refine e_cpI (pc' := 20) rfl (e_sV (as := [_]) (fun _ => rfl) (Or.inl rfl) rfl (hs.o rfl) rfl rfl (Nat.le_of_ble_eq_true rfl) (Nat.le_of_ble_eq_true rfl) rfl) rfl rfl rfl ?_
  refine qev.mono h (fun v _ _ _ h => ?_)
  obtain ⟨r3, rfl, h⟩ := h
  refine ⟨r3, rfl, ?_⟩
  refine e_next (pc' := 21) rfl rfl ?_
  refine e_next (pc' := 22) rfl rfl ?_
  refine e_cpI (pc' := 25) rfl (e_sV (as := [_]) (fun _ => rfl) (Or.inl rfl) rfl (hs.o rfl) rfl rfl (Nat.le_of_ble_eq_true rfl) (Nat.le_of_ble_eq_true rfl) rfl) rfl rfl rfl ?_
  refine qev.mono h (fun v _ _ _ h => ?_)
  obtain ⟨r4, rfl, h⟩ := h
  refine ⟨r4, rfl, ?_⟩
  refine e_next (pc' := 26) rfl rfl ?_
  refine e_cpI (pc' := 29) rfl (e_sS (as := [_, _]) (fun _ => rfl) rfl (Nat.le_of_ble_eq_true rfl) rfl rfl (Nat.le_of_ble_eq_true rfl) (Nat.le_of_ble_eq_true rfl) rfl) rfl rfl rfl ?_
  refine qev.mono h (fun v _ _ _ h => ?_)
  obtain ⟨r5, rfl, h⟩ := h
  refine ⟨r5, rfl, ?_⟩
  refine e_cpI (pc' := 32) rfl (e_sS (as := [_, _]) (fun _ => rfl) rfl (Nat.le_of_ble_eq_true rfl) rfl rfl (Nat.le_of_ble_eq_true rfl) (Nat.le_of_ble_eq_true rfl) rfl) rfl rfl rfl ?_
  refine qev.mono h (fun v _ _ _ h => ?_)
  obtain ⟨r6, rfl, h⟩ := h
  refine ⟨r6, rfl, ?_⟩
  refine e_next (pc' := 34) (ls' := [_, _, _, _, _, _]) rfl rfl ?_
  refine e_next (pc' := 35) rfl rfl ?_
  refine e_next (pc' := 36) rfl rfl ?_
  refine e_next (pc' := 38) rfl rfl ?_
  refine e_ciV (pc' := 41) rfl (e_sV (as := [_, _]) (fun _ => rfl) (Or.inl rfl) rfl (hs.o rfl) rfl rfl (Nat.le_of_ble_eq_true rfl) (Nat.le_of_ble_eq_true rfl) rfl) rfl rfl ?_
  refine qev.mono h (fun v _ I1 _ h => ?_)
  obtain ⟨rfl, h⟩ := h
  refine ⟨rfl, ?_⟩
  refine e_iconst (pc' := 42) rfl rfl kc_0 ?_
  refine e_next (pc' := 44) (ls' := [_, _, _, _, _, _]) rfl rfl ?_
  exact h
theorem w189_44 {d : Nat} {i1 : Int32} {i2 : Int32} {i3 : Int32} {i4 : Int32} {i5 : Int32} {g : qG} {I : qI} {J : qJ} {Q : qQ} (hs : qSh g)  (h : ((i4 ≤ i5 → Q none g I J) ∧ (¬ i4 ≤ i5 → qC d 188 [.ref 105, .int i1, .int i2, .int i5] g I J (fun v _ _ _ => ∃ r1, v = some (.long r1) ∧ qC d 178 [.ref 105, .long r1] g I J (fun v _ _ _ => ∃ r2, v = some (.int r2) ∧ qC d 183 [.ref 105, .int i3, .int i5, .int r2] g I J (fun v _ I1 _ => v = none ∧ qev (d + 1) 189 (44, [.ref 105, .int i1, .int i2, .int i3, .int i4, .int (i5 + (nI 1))], [], g, I1, J) Q)))))) : qev (d + 1) 189 (44, [.ref 105, .int i1, .int i2, .int i3, .int i4, .int i5], [], g, I, J) Q := by
  refine e_next (pc' := 46) rfl rfl ?_
  refine e_next (pc' := 48) rfl rfl ?_
  refine e_icmp (i4 ≤ i5) (pc' := 51) rfl rfl e_d (fun hc => ?_) (fun hc => ?_)
  · replace h := h.1 hc
    exact qev_ret rfl rfl h
  · replace h := h.2 hc
    refine e_next (pc' := 52) rfl rfl ?_
    refine e_next (pc' := 53) rfl rfl ?_
    refine e_next (pc' := 55) rfl rfl ?_
    refine e_next (pc' := 56) rfl rfl ?_
    refine e_next (pc' := 57) rfl rfl ?_
    refine e_next (pc' := 58) rfl rfl ?_
    refine e_next (pc' := 59) rfl rfl ?_
    refine e_next (pc' := 61) rfl rfl ?_
    refine e_cpL (pc' := 64) rfl (e_sV (as := [_, _, _]) (fun _ => rfl) (Or.inl rfl) rfl (hs.o rfl) rfl rfl (Nat.le_of_ble_eq_true rfl) (Nat.le_of_ble_eq_true rfl) rfl) rfl rfl rfl ?_
    refine qev.mono h (fun v _ _ _ h => ?_)
    obtain ⟨r1, rfl, h⟩ := h
    refine ⟨r1, rfl, ?_⟩
    refine e_cpI (pc' := 67) rfl (e_sV (as := [_]) (fun _ => rfl) (Or.inl rfl) rfl (hs.o rfl) rfl rfl (Nat.le_of_ble_eq_true rfl) (Nat.le_of_ble_eq_true rfl) rfl) rfl rfl rfl ?_
    refine qev.mono h (fun v _ _ _ h => ?_)
    obtain ⟨r2, rfl, h⟩ := h
    refine ⟨r2, rfl, ?_⟩
    refine e_ciV (pc' := 70) rfl (e_sV (as := [_, _, _]) (fun _ => rfl) (Or.inl rfl) rfl (hs.o rfl) rfl rfl (Nat.le_of_ble_eq_true rfl) (Nat.le_of_ble_eq_true rfl) rfl) rfl rfl ?_
    refine qev.mono h (fun v _ I1 _ h => ?_)
    obtain ⟨rfl, h⟩ := h
    refine ⟨rfl, ?_⟩
    refine e_iinc (pc' := 73) (ls' := [_, _, _, _, _, _]) (v := (nI 1)) rfl rfl kc_1 rfl rfl ?_
    refine e_next (pc' := 44) rfl rfl ?_
    exact h
theorem w190 {d : Nat} {x1 : Int32} {x2 : Int32} {g : qG} {I : qI} {J : qJ} {Q : qQ} (hs : qSh g)  (h : qC d 180 [.ref 105, .int x1] g I J (fun v _ _ _ => ∃ r1, v = some (.int r1) ∧ qC d 182 [.ref 105, .int x1, .int (nI 0)] g I J (fun v _ _ _ => ∃ r2, v = some (.int r2) ∧ qC d 179 [.ref 105, .int r2] g I J (fun v _ _ _ => ∃ r3, v = some (.int r3) ∧ qC d 181 [.ref 105, .int x2, .int r1] g I J (fun v _ I1 _ => v = none ∧ qev (d + 1) 190 (27, [.ref 105, .int x1, .int x2, .int r1, .int r3, .int (nI 0)], [], g, I1, J) Q))))) : qC (d + 1) 190 [.ref 105, .int x1, .int x2] g I J Q := by
  show qev (d + 1) 190 (0, [.ref 105, .int x1, .int x2, qpad, qpad, qpad], [], g, I, J) Q
  refine e_next (pc' := 1) rfl rfl ?_
  refine e_next (pc' := 2) rfl rfl ?_
  refine e_cpI (pc' := 5) rfl (e_sV (as := [_]) (fun _ => rfl) (Or.inl rfl) rfl (hs.o rfl) rfl rfl (Nat.le_of_ble_eq_true rfl) (Nat.le_of_ble_eq_true rfl) rfl) rfl rfl rfl ?_
  refine qev.mono h (fun v _ _ _ h => ?_)
  obtain ⟨r1, rfl, h⟩ := h
  refine ⟨r1, rfl, ?_⟩
  refine e_next (pc' := 6) (ls' := [_, _, _, _, _, _]) rfl rfl ?_
  refine e_next (pc' := 7) rfl rfl ?_
  refine e_next (pc' := 8) rfl rfl ?_
  refine e_next (pc' := 9) rfl rfl ?_
  refine e_iconst (pc' := 10) rfl rfl kc_0 ?_
  refine e_cpI (pc' := 13) rfl (e_sV (as := [_, _]) (fun _ => rfl) (Or.inl rfl) rfl (hs.o rfl) rfl rfl (Nat.le_of_ble_eq_true rfl) (Nat.le_of_ble_eq_true rfl) rfl) rfl rfl rfl ?_
  refine qev.mono h (fun v _ _ _ h => ?_)
  obtain ⟨r2, rfl, h⟩ := h
  refine ⟨r2, rfl, ?_⟩
  refine e_cpI (pc' := 16) rfl (e_sV (as := [_]) (fun _ => rfl) (Or.inl rfl) rfl (hs.o rfl) rfl rfl (Nat.le_of_ble_eq_true rfl) (Nat.le_of_ble_eq_true rfl) rfl) rfl rfl rfl ?_
  refine qev.mono h (fun v _ _ _ h => ?_)
  obtain ⟨r3, rfl, h⟩ := h
  refine ⟨r3, rfl, ?_⟩
  refine e_next (pc' := 18) (ls' := [_, _, _, _, _, _]) rfl rfl ?_
  refine e_next (pc' := 19) rfl rfl ?_
  refine e_next (pc' := 20) rfl rfl ?_
  refine e_next (pc' := 21) rfl rfl ?_
  refine e_ciV (pc' := 24) rfl (e_sV (as := [_, _]) (fun _ => rfl) (Or.inl rfl) rfl (hs.o rfl) rfl rfl (Nat.le_of_ble_eq_true rfl) (Nat.le_of_ble_eq_true rfl) rfl) rfl rfl ?_
  refine qev.mono h (fun v _ I1 _ h => ?_)
  obtain ⟨rfl, h⟩ := h
  refine ⟨rfl, ?_⟩
  refine e_iconst (pc' := 25) rfl rfl kc_0 ?_
  refine e_next (pc' := 27) (ls' := [_, _, _, _, _, _]) rfl rfl ?_
  exact h
theorem w190_27 {d : Nat} {i1 : Int32} {i2 : Int32} {i3 : Int32} {i4 : Int32} {i5 : Int32} {g : qG} {I : qI} {J : qJ} {Q : qQ} (hs : qSh g)  (h : ((i3 ≤ i5 → qC d 183 [.ref 105, .int i2, .int (nI 0), .int i4] g I J (fun v _ I1 _ => v = none ∧ qev (d + 1) 190 (58, [.ref 105, .int i1, .int i2, .int i3, .int i4, .int (nI 1)], [], g, I1, J) Q)) ∧ (¬ i3 ≤ i5 → qC d 183 [.ref 105, .int i2, .int i5, .int (nI 0)] g I J (fun v _ I2 _ => v = none ∧ qev (d + 1) 190 (27, [.ref 105, .int i1, .int i2, .int i3, .int i4, .int (i5 + (nI 1))], [], g, I2, J) Q)))) : qev (d + 1) 190 (27, [.ref 105, .int i1, .int i2, .int i3, .int i4, .int i5], [], g, I, J) Q := by
  refine e_next (pc' := 29) rfl rfl ?_
  refine e_next (pc' := 30) rfl rfl ?_
  refine e_icmp (i3 ≤ i5) (pc' := 33) rfl rfl e_d (fun hc => ?_) (fun hc => ?_)
  · replace h := h.1 hc
    refine e_next (pc' := 48) rfl rfl ?_
    refine e_next (pc' := 49) rfl rfl ?_
    refine e_iconst (pc' := 50) rfl rfl kc_0 ?_
    refine e_next (pc' := 52) rfl rfl ?_
    refine e_ciV (pc' := 55) rfl (e_sV (as := [_, _, _]) (fun _ => rfl) (Or.inl rfl) rfl (hs.o rfl) rfl rfl (Nat.le_of_ble_eq_true rfl) (Nat.le_of_ble_eq_true rfl) rfl) rfl rfl ?_
    refine qev.mono h (fun v _ I1 _ h => ?_)
    obtain ⟨rfl, h⟩ := h
    refine ⟨rfl, ?_⟩
    refine e_iconst (pc' := 56) rfl rfl kc_1 ?_
    refine e_next (pc' := 58) (ls' := [_, _, _, _, _, _]) rfl rfl ?_
    exact h
  · replace h := h.2 hc
    refine e_next (pc' := 34) rfl rfl ?_
    refine e_next (pc' := 35) rfl rfl ?_
    refine e_next (pc' := 37) rfl rfl ?_
    refine e_iconst (pc' := 38) rfl rfl kc_0 ?_
    refine e_ciV (pc' := 41) rfl (e_sV (as := [_, _, _]) (fun _ => rfl) (Or.inl rfl) rfl (hs.o rfl) rfl rfl (Nat.le_of_ble_eq_true rfl) (Nat.le_of_ble_eq_true rfl) rfl) rfl rfl ?_
    refine qev.mono h (fun v _ I2 _ h => ?_)
    obtain ⟨rfl, h⟩ := h
    refine ⟨rfl, ?_⟩
    refine e_iinc (pc' := 44) (ls' := [_, _, _, _, _, _]) (v := (nI 1)) rfl rfl kc_1 rfl rfl ?_
    refine e_next (pc' := 27) rfl rfl ?_
    exact h
theorem w190_58 {d : Nat} {i1 : Int32} {i2 : Int32} {i3 : Int32} {i4 : Int32} {i5 : Int32} {g : qG} {I : qI} {J : qJ} {Q : qQ} (hs : qSh g)  (h : ((i3 ≤ i5 → Q none g I J) ∧ (¬ i3 ≤ i5 → qC d 188 [.ref 105, .int i1, .int i2, .int i5] g I J (fun v _ _ _ => ∃ r1, v = some (.long r1) ∧ qC d 178 [.ref 105, .long ((-r1) * (Int32.toInt64 i4))] g I J (fun v _ _ _ => ∃ r2, v = some (.int r2) ∧ qC d 183 [.ref 105, .int i2, .int i5, .int r2] g I J (fun v _ I1 _ => v = none ∧ qev (d + 1) 190 (58, [.ref 105, .int i1, .int i2, .int i3, .int i4, .int (i5 + (nI 1))], [], g, I1, J) Q)))))) : qev (d + 1) 190 (58, [.ref 105, .int i1, .int i2, .int i3, .int i4, .int i5], [], g, I, J) Q := by
  refine e_next (pc' := 60) rfl rfl ?_
  refine e_next (pc' := 61) rfl rfl ?_
  refine e_icmp (i3 ≤ i5) (pc' := 64) rfl rfl e_d (fun hc => ?_) (fun hc => ?_)
  · replace h := h.1 hc
    exact qev_ret rfl rfl h
  · replace h := h.2 hc
    refine e_next (pc' := 65) rfl rfl ?_
    refine e_next (pc' := 66) rfl rfl ?_
    refine e_next (pc' := 68) rfl rfl ?_
    refine e_next (pc' := 69) rfl rfl ?_
    refine e_next (pc' := 70) rfl rfl ?_
    refine e_next (pc' := 71) rfl rfl ?_
    refine e_next (pc' := 72) rfl rfl ?_
    refine e_next (pc' := 74) rfl rfl ?_
    refine e_cpL (pc' := 77) rfl (e_sV (as := [_, _, _]) (fun _ => rfl) (Or.inl rfl) rfl (hs.o rfl) rfl rfl (Nat.le_of_ble_eq_true rfl) (Nat.le_of_ble_eq_true rfl) rfl) rfl rfl rfl ?_
    refine qev.mono h (fun v _ _ _ h => ?_)
    obtain ⟨r1, rfl, h⟩ := h
    refine ⟨r1, rfl, ?_⟩
    refine e_next (pc' := 78) rfl rfl ?_
    refine e_next (pc' := 80) rfl rfl ?_
    refine e_next (pc' := 81) rfl rfl ?_
    refine e_next (pc' := 82) rfl rfl ?_
    refine e_cpI (pc' := 85) rfl (e_sV (as := [_]) (fun _ => rfl) (Or.inl rfl) rfl (hs.o rfl) rfl rfl (Nat.le_of_ble_eq_true rfl) (Nat.le_of_ble_eq_true rfl) rfl) rfl rfl rfl ?_
    refine qev.mono h (fun v _ _ _ h => ?_)
    obtain ⟨r2, rfl, h⟩ := h
    refine ⟨r2, rfl, ?_⟩
    refine e_ciV (pc' := 88) rfl (e_sV (as := [_, _, _]) (fun _ => rfl) (Or.inl rfl) rfl (hs.o rfl) rfl rfl (Nat.le_of_ble_eq_true rfl) (Nat.le_of_ble_eq_true rfl) rfl) rfl rfl ?_
    refine qev.mono h (fun v _ I1 _ h => ?_)
    obtain ⟨rfl, h⟩ := h
    refine ⟨rfl, ?_⟩
    refine e_iinc (pc' := 91) (ls' := [_, _, _, _, _, _]) (v := (nI 1)) rfl rfl kc_1 rfl rfl ?_
    refine e_next (pc' := 58) rfl rfl ?_
    exact h
theorem w191 {d : Nat} {x1 : Int32} {x2 : Int32} {g : qG} {I : qI} {J : qJ} {Q : qQ} (hs : qSh g)  (h : qC d 180 [.ref 105, .int x1] g I J (fun v _ _ _ => ∃ r1, v = some (.int r1) ∧ qev (d + 1) 191 (11, [.ref 105, .int x1, .int x2, .int (r1 - x2), .int (nI 0)], [], g, I, J) Q)) : qC (d + 1) 191 [.ref 105, .int x1, .int x2] g I J Q := by
  show qev (d + 1) 191 (0, [.ref 105, .int x1, .int x2, qpad, qpad], [], g, I, J) Q
  refine e_next (pc' := 1) rfl rfl ?_
  refine e_next (pc' := 2) rfl rfl ?_
  refine e_cpI (pc' := 5) rfl (e_sV (as := [_]) (fun _ => rfl) (Or.inl rfl) rfl (hs.o rfl) rfl rfl (Nat.le_of_ble_eq_true rfl) (Nat.le_of_ble_eq_true rfl) rfl) rfl rfl rfl ?_
  refine qev.mono h (fun v _ _ _ h => ?_)
  obtain ⟨r1, rfl, h⟩ := h
  refine ⟨r1, rfl, ?_⟩
  refine e_next (pc' := 6) rfl rfl ?_
  refine e_next (pc' := 7) rfl rfl ?_
  refine e_next (pc' := 8) (ls' := [_, _, _, _, _]) rfl rfl ?_
  refine e_iconst (pc' := 9) rfl rfl kc_0 ?_
  refine e_next (pc' := 11) (ls' := [_, _, _, _, _]) rfl rfl ?_
  exact h
theorem w191_11 {d : Nat} {i1 : Int32} {i2 : Int32} {i3 : Int32} {i4 : Int32} {g : qG} {I : qI} {J : qJ} {Q : qQ} (hs : qSh g)  (h : ((i3 ≤ i4 → qC d 181 [.ref 105, .int i1, .int i3] g I J (fun v _ I1 _ => v = none ∧ Q none g I1 J)) ∧ (¬ i3 ≤ i4 → qC d 182 [.ref 105, .int i1, .int (i4 + i2)] g I J (fun v _ _ _ => ∃ r1, v = some (.int r1) ∧ qC d 183 [.ref 105, .int i1, .int i4, .int r1] g I J (fun v _ I2 _ => v = none ∧ qev (d + 1) 191 (11, [.ref 105, .int i1, .int i2, .int i3, .int (i4 + (nI 1))], [], g, I2, J) Q))))) : qev (d + 1) 191 (11, [.ref 105, .int i1, .int i2, .int i3, .int i4], [], g, I, J) Q := by
  refine e_next (pc' := 13) rfl rfl ?_
  refine e_next (pc' := 14) rfl rfl ?_
  refine e_icmp (i3 ≤ i4) (pc' := 17) rfl rfl e_d (fun hc => ?_) (fun hc => ?_)
  · replace h := h.1 hc
    refine e_next (pc' := 40) rfl rfl ?_
    refine e_next (pc' := 41) rfl rfl ?_
    refine e_next (pc' := 42) rfl rfl ?_
    refine e_ciV (pc' := 45) rfl (e_sV (as := [_, _]) (fun _ => rfl) (Or.inl rfl) rfl (hs.o rfl) rfl rfl (Nat.le_of_ble_eq_true rfl) (Nat.le_of_ble_eq_true rfl) rfl) rfl rfl ?_
    refine qev.mono h (fun v _ I1 _ h => ?_)
    obtain ⟨rfl, h⟩ := h
    refine ⟨rfl, ?_⟩
    exact qev_ret rfl rfl h
  · replace h := h.2 hc
    refine e_next (pc' := 18) rfl rfl ?_
    refine e_next (pc' := 19) rfl rfl ?_
    refine e_next (pc' := 21) rfl rfl ?_
    refine e_next (pc' := 22) rfl rfl ?_
    refine e_next (pc' := 23) rfl rfl ?_
    refine e_next (pc' := 25) rfl rfl ?_
    refine e_next (pc' := 26) rfl rfl ?_
    refine e_next (pc' := 27) rfl rfl ?_
    refine e_cpI (pc' := 30) rfl (e_sV (as := [_, _]) (fun _ => rfl) (Or.inl rfl) rfl (hs.o rfl) rfl rfl (Nat.le_of_ble_eq_true rfl) (Nat.le_of_ble_eq_true rfl) rfl) rfl rfl rfl ?_
    refine qev.mono h (fun v _ _ _ h => ?_)
    obtain ⟨r1, rfl, h⟩ := h
    refine ⟨r1, rfl, ?_⟩
    refine e_ciV (pc' := 33) rfl (e_sV (as := [_, _, _]) (fun _ => rfl) (Or.inl rfl) rfl (hs.o rfl) rfl rfl (Nat.le_of_ble_eq_true rfl) (Nat.le_of_ble_eq_true rfl) rfl) rfl rfl ?_
    refine qev.mono h (fun v _ I2 _ h => ?_)
    obtain ⟨rfl, h⟩ := h
    refine ⟨rfl, ?_⟩
    refine e_iinc (pc' := 36) (ls' := [_, _, _, _, _]) (v := (nI 1)) rfl rfl kc_1 rfl rfl ?_
    refine e_next (pc' := 11) rfl rfl ?_
    exact h
theorem w192 {d : Nat} {x1 : Int32} {x2 : Int32} {x3 : Int32} {x4 : Int32} {g : qG} {I : qI} {J : qJ} {Q : qQ} (hs : qSh g)  (h : qC d 181 [.ref 105, .int x3, .int x4] g I J (fun v _ I1 _ => v = none ∧ qev (d + 1) 192 (10, [.ref 105, .int x1, .int x2, .int x3, .int x4, .int (nI 0)], [], g, I1, J) Q)) : qC (d + 1) 192 [.ref 105, .int x1, .int x2, .int x3, .int x4] g I J Q := by
  show qev (d + 1) 192 (0, [.ref 105, .int x1, .int x2, .int x3, .int x4, qpad], [], g, I, J) Q
  refine e_next (pc' := 1) rfl rfl ?_
  refine e_next (pc' := 2) rfl rfl ?_
  refine e_next (pc' := 4) rfl rfl ?_
  refine e_ciV (pc' := 7) rfl (e_sV (as := [_, _]) (fun _ => rfl) (Or.inl rfl) rfl (hs.o rfl) rfl rfl (Nat.le_of_ble_eq_true rfl) (Nat.le_of_ble_eq_true rfl) rfl) rfl rfl ?_
  refine qev.mono h (fun v _ I1 _ h => ?_)
  obtain ⟨rfl, h⟩ := h
  refine ⟨rfl, ?_⟩
  refine e_iconst (pc' := 8) rfl rfl kc_0 ?_
  refine e_next (pc' := 10) (ls' := [_, _, _, _, _, _]) rfl rfl ?_
  exact h
theorem w192_10 {d : Nat} {i1 : Int32} {i2 : Int32} {i3 : Int32} {i4 : Int32} {i5 : Int32} {g : qG} {I : qI} {J : qJ} {Q : qQ} (hs : qSh g)  (h : ((i4 ≤ i5 → Q none g I J) ∧ (¬ i4 ≤ i5 → qC d 188 [.ref 105, .int i1, .int i2, .int i5] g I J (fun v _ _ _ => ∃ r1, v = some (.long r1) ∧ qC d 178 [.ref 105, .long r1] g I J (fun v _ _ _ => ∃ r2, v = some (.int r2) ∧ qC d 183 [.ref 105, .int i3, .int i5, .int r2] g I J (fun v _ I1 _ => v = none ∧ qev (d + 1) 192 (10, [.ref 105, .int i1, .int i2, .int i3, .int i4, .int (i5 + (nI 1))], [], g, I1, J) Q)))))) : qev (d + 1) 192 (10, [.ref 105, .int i1, .int i2, .int i3, .int i4, .int i5], [], g, I, J) Q := by
  refine e_next (pc' := 12) rfl rfl ?_
  refine e_next (pc' := 14) rfl rfl ?_
  refine e_icmp (i4 ≤ i5) (pc' := 17) rfl rfl e_d (fun hc => ?_) (fun hc => ?_)
  · replace h := h.1 hc
    exact qev_ret rfl rfl h
  · replace h := h.2 hc
    refine e_next (pc' := 18) rfl rfl ?_
    refine e_next (pc' := 19) rfl rfl ?_
    refine e_next (pc' := 21) rfl rfl ?_
    refine e_next (pc' := 22) rfl rfl ?_
    refine e_next (pc' := 23) rfl rfl ?_
    refine e_next (pc' := 24) rfl rfl ?_
    refine e_next (pc' := 25) rfl rfl ?_
    refine e_next (pc' := 27) rfl rfl ?_
    refine e_cpL (pc' := 30) rfl (e_sV (as := [_, _, _]) (fun _ => rfl) (Or.inl rfl) rfl (hs.o rfl) rfl rfl (Nat.le_of_ble_eq_true rfl) (Nat.le_of_ble_eq_true rfl) rfl) rfl rfl rfl ?_
    refine qev.mono h (fun v _ _ _ h => ?_)
    obtain ⟨r1, rfl, h⟩ := h
    refine ⟨r1, rfl, ?_⟩
    refine e_cpI (pc' := 33) rfl (e_sV (as := [_]) (fun _ => rfl) (Or.inl rfl) rfl (hs.o rfl) rfl rfl (Nat.le_of_ble_eq_true rfl) (Nat.le_of_ble_eq_true rfl) rfl) rfl rfl rfl ?_
    refine qev.mono h (fun v _ _ _ h => ?_)
    obtain ⟨r2, rfl, h⟩ := h
    refine ⟨r2, rfl, ?_⟩
    refine e_ciV (pc' := 36) rfl (e_sV (as := [_, _, _]) (fun _ => rfl) (Or.inl rfl) rfl (hs.o rfl) rfl rfl (Nat.le_of_ble_eq_true rfl) (Nat.le_of_ble_eq_true rfl) rfl) rfl rfl ?_
    refine qev.mono h (fun v _ I1 _ h => ?_)
    obtain ⟨rfl, h⟩ := h
    refine ⟨rfl, ?_⟩
    refine e_iinc (pc' := 39) (ls' := [_, _, _, _, _, _]) (v := (nI 1)) rfl rfl kc_1 rfl rfl ?_
    refine e_next (pc' := 10) rfl rfl ?_
    exact h
theorem w193 {d : Nat} {x1 : Int32} {x2 : Int32} {g : qG} {I : qI} {J : qJ} {Q : qQ} (hs : qSh g)  (h : qC d 181 [.ref 105, .int x1, .int x2] g I J (fun v _ I1 _ => v = none ∧ qev (d + 1) 193 (8, [.ref 105, .int x1, .int x2, .int (nI 0)], [], g, I1, J) Q)) : qC (d + 1) 193 [.ref 105, .int x1, .int x2] g I J Q := by
  show qev (d + 1) 193 (0, [.ref 105, .int x1, .int x2, qpad], [], g, I, J) Q
  refine e_next (pc' := 1) rfl rfl ?_
  refine e_next (pc' := 2) rfl rfl ?_
  refine e_next (pc' := 3) rfl rfl ?_
  refine e_ciV (pc' := 6) rfl (e_sV (as := [_, _]) (fun _ => rfl) (Or.inl rfl) rfl (hs.o rfl) rfl rfl (Nat.le_of_ble_eq_true rfl) (Nat.le_of_ble_eq_true rfl) rfl) rfl rfl ?_
  refine qev.mono h (fun v _ I1 _ h => ?_)
  obtain ⟨rfl, h⟩ := h
  refine ⟨rfl, ?_⟩
  refine e_iconst (pc' := 7) rfl rfl kc_0 ?_
  refine e_next (pc' := 8) (ls' := [_, _, _, _]) rfl rfl ?_
  exact h
theorem w193_8 {d : Nat} {i1 : Int32} {i2 : Int32} {i3 : Int32} {g : qG} {I : qI} {J : qJ} {Q : qQ} (hs : qSh g)  (h : ((i2 ≤ i3 → Q none g I J) ∧ (¬ i2 ≤ i3 → qC d 183 [.ref 105, .int i1, .int i3, .int (nI 0)] g I J (fun v _ I1 _ => v = none ∧ qev (d + 1) 193 (8, [.ref 105, .int i1, .int i2, .int (i3 + (nI 1))], [], g, I1, J) Q)))) : qev (d + 1) 193 (8, [.ref 105, .int i1, .int i2, .int i3], [], g, I, J) Q := by
  refine e_next (pc' := 9) rfl rfl ?_
  refine e_next (pc' := 10) rfl rfl ?_
  refine e_icmp (i2 ≤ i3) (pc' := 13) rfl rfl e_d (fun hc => ?_) (fun hc => ?_)
  · replace h := h.1 hc
    exact qev_ret rfl rfl h
  · replace h := h.2 hc
    refine e_next (pc' := 14) rfl rfl ?_
    refine e_next (pc' := 15) rfl rfl ?_
    refine e_next (pc' := 16) rfl rfl ?_
    refine e_iconst (pc' := 17) rfl rfl kc_0 ?_
    refine e_ciV (pc' := 20) rfl (e_sV (as := [_, _, _]) (fun _ => rfl) (Or.inl rfl) rfl (hs.o rfl) rfl rfl (Nat.le_of_ble_eq_true rfl) (Nat.le_of_ble_eq_true rfl) rfl) rfl rfl ?_
    refine qev.mono h (fun v _ I1 _ h => ?_)
    obtain ⟨rfl, h⟩ := h
    refine ⟨rfl, ?_⟩
    refine e_iinc (pc' := 23) (ls' := [_, _, _, _]) (v := (nI 1)) rfl rfl kc_1 rfl rfl ?_
    refine e_next (pc' := 8) rfl rfl ?_
    exact h
theorem w194 {d : Nat} {x1 : Int32} {x2 : Int32} {x3 : Int32} {x4 : Int32} {g : qG} {I : qI} {J : qJ} {Q : qQ} (hs : qSh g)  (h : qC d 184 [.ref 105, .int x1, .int (nI 43)] g I J (fun v _ I1 _ => v = none ∧ qC d 184 [.ref 105, .int x1, .int x4] g I1 J (fun v _ I2 _ => v = none ∧ qC d 181 [.ref 105, .int x4, .int x3] g I2 J (fun v _ I3 _ => v = none ∧ qev (d + 1) 194 (24, [.ref 105, .int x1, .int x2, .int x3, .int x4, .int (nI 1)], [], g, I3, J) Q)))) : qC (d + 1) 194 [.ref 105, .int x1, .int x2, .int x3, .int x4] g I J Q := by
  show qev (d + 1) 194 (0, [.ref 105, .int x1, .int x2, .int x3, .int x4, qpad], [], g, I, J) Q
  refine e_next (pc' := 1) rfl rfl ?_
  refine e_next (pc' := 2) rfl rfl ?_
  refine e_bipush (pc' := 4) rfl rfl kb_43 ?_
  refine e_ciV (pc' := 7) rfl (e_sV (as := [_, _]) (fun _ => rfl) (Or.inl rfl) rfl (hs.o rfl) rfl rfl (Nat.le_of_ble_eq_true rfl) (Nat.le_of_ble_eq_true rfl) rfl) rfl rfl ?_
  refine qev.mono h (fun v _ I1 _ h => ?_)
  obtain ⟨rfl, h⟩ := h
  refine ⟨rfl, ?_⟩
  refine e_next (pc' := 8) rfl rfl ?_
  refine e_next (pc' := 9) rfl rfl ?_
  refine e_next (pc' := 11) rfl rfl ?_
  refine e_ciV (pc' := 14) rfl (e_sV (as := [_, _]) (fun _ => rfl) (Or.inl rfl) rfl (hs.o rfl) rfl rfl (Nat.le_of_ble_eq_true rfl) (Nat.le_of_ble_eq_true rfl) rfl) rfl rfl ?_
  refine qev.mono h (fun v _ I2 _ h => ?_)
  obtain ⟨rfl, h⟩ := h
  refine ⟨rfl, ?_⟩
  refine e_next (pc' := 15) rfl rfl ?_
  refine e_next (pc' := 17) rfl rfl ?_
  refine e_next (pc' := 18) rfl rfl ?_
  refine e_ciV (pc' := 21) rfl (e_sV (as := [_, _]) (fun _ => rfl) (Or.inl rfl) rfl (hs.o rfl) rfl rfl (Nat.le_of_ble_eq_true rfl) (Nat.le_of_ble_eq_true rfl) rfl) rfl rfl ?_
  refine qev.mono h (fun v _ I3 _ h => ?_)
  obtain ⟨rfl, h⟩ := h
  refine ⟨rfl, ?_⟩
  refine e_iconst (pc' := 22) rfl rfl kc_1 ?_
  refine e_next (pc' := 24) (ls' := [_, _, _, _, _, _]) rfl rfl ?_
  exact h
theorem w194_24 {d : Nat} {i1 : Int32} {i2 : Int32} {i3 : Int32} {i4 : Int32} {i5 : Int32} {g : qG} {I : qI} {J : qJ} {Q : qQ} (hs : qSh g)  (h : ((i2 ≤ i5 → Q none g I J) ∧ (¬ i2 ≤ i5 → qC d 192 [.ref 105, .int i4, .int (nI 43), .int (nI 44), .int i3] g I J (fun v _ I1 _ => v = none ∧ qC d 184 [.ref 105, .int (nI 44), .int i4] g I1 J (fun v _ I2 _ => v = none ∧ qev (d + 1) 194 (24, [.ref 105, .int i1, .int i2, .int i3, .int i4, .int (i5 + (nI 1))], [], g, I2, J) Q))))) : qev (d + 1) 194 (24, [.ref 105, .int i1, .int i2, .int i3, .int i4, .int i5], [], g, I, J) Q := by
  refine e_next (pc' := 26) rfl rfl ?_
  refine e_next (pc' := 27) rfl rfl ?_
  refine e_icmp (i2 ≤ i5) (pc' := 30) rfl rfl e_d (fun hc => ?_) (fun hc => ?_)
  · replace h := h.1 hc
    exact qev_ret rfl rfl h
  · replace h := h.2 hc
    refine e_next (pc' := 31) rfl rfl ?_
    refine e_next (pc' := 33) rfl rfl ?_
    refine e_bipush (pc' := 35) rfl rfl kb_43 ?_
    refine e_bipush (pc' := 37) rfl rfl kb_44 ?_
    refine e_next (pc' := 38) rfl rfl ?_
    refine e_ciV (pc' := 41) rfl (e_sV (as := [_, _, _, _]) (fun _ => rfl) (Or.inl rfl) rfl (hs.o rfl) rfl rfl (Nat.le_of_ble_eq_true rfl) (Nat.le_of_ble_eq_true rfl) rfl) rfl rfl ?_
    refine qev.mono h (fun v _ I1 _ h => ?_)
    obtain ⟨rfl, h⟩ := h
    refine ⟨rfl, ?_⟩
    refine e_next (pc' := 42) rfl rfl ?_
    refine e_bipush (pc' := 44) rfl rfl kb_44 ?_
    refine e_next (pc' := 46) rfl rfl ?_
    refine e_ciV (pc' := 49) rfl (e_sV (as := [_, _]) (fun _ => rfl) (Or.inl rfl) rfl (hs.o rfl) rfl rfl (Nat.le_of_ble_eq_true rfl) (Nat.le_of_ble_eq_true rfl) rfl) rfl rfl ?_
    refine qev.mono h (fun v _ I2 _ h => ?_)
    obtain ⟨rfl, h⟩ := h
    refine ⟨rfl, ?_⟩
    refine e_iinc (pc' := 52) (ls' := [_, _, _, _, _, _]) (v := (nI 1)) rfl rfl kc_1 rfl rfl ?_
    refine e_next (pc' := 24) rfl rfl ?_
    exact h
theorem w195 {d : Nat} {x1 : Int32} {g : qG} {I : qI} {J : qJ} {Q : qQ} (hs : qSh g)  (h : qC d 185 [.ref 105, .int (x1 + (nI 1))] g I J (fun v _ _ _ => ∃ r1, v = some (.int r1) ∧ qC d 180 [.ref 105, .int (x1 + (nI 1))] g I J (fun v _ _ _ => ∃ r2, v = some (.int r2) ∧ ((r1 = r2 → Q (some (.int (nI 2))) g I J) ∧ (¬ r1 = r2 → qC d 185 [.ref 105, .int x1] g I J (fun v _ _ _ => ∃ r3, v = some (.int r3) ∧ ((r1 ≤ r3 → qC d 180 [.ref 105, .int x1] g I J (fun v _ _ _ => ∃ r4, v = some (.int r4) ∧ ((r1 = r4 → Q (some (.int (nI 5))) g I J) ∧ (¬ r1 = r4 → qC d 191 [.ref 105, .int x1, .int r1] g I J (fun v _ I1 _ => v = none ∧ qC d 191 [.ref 105, .int (x1 + (nI 1)), .int r1] g I1 J (fun v _ I2 _ => v = none ∧ qC d 190 [.ref 105, .int (x1 + (nI 1)), .int (nI 40)] g I2 J (fun v _ I3 _ => v = none ∧ qC d 189 [.ref 105, .int x1, .int (nI 40), .int (nI 41)] g I3 J (fun v _ I4 _ => v = none ∧ qC d 184 [.ref 105, .int (nI 41), .int x1] g I4 J (fun v _ I5 _ => v = none ∧ Q (some (.int (-1))) g I5 J))))))))) ∧ (¬ r1 ≤ r3 → Q (some (.int (nI 2))) g I J)))))))) : qC (d + 1) 195 [.ref 105, .int x1] g I J Q := by
  show qev (d + 1) 195 (0, [.ref 105, .int x1, qpad], [], g, I, J) Q
  refine e_next (pc' := 1) rfl rfl ?_
  refine e_next (pc' := 2) rfl rfl ?_
  refine e_iconst (pc' := 3) rfl rfl kc_1 ?_
  refine e_next (pc' := 4) rfl rfl ?_
  refine e_cpI (pc' := 7) rfl (e_sV (as := [_]) (fun _ => rfl) (Or.inl rfl) rfl (hs.o rfl) rfl rfl (Nat.le_of_ble_eq_true rfl) (Nat.le_of_ble_eq_true rfl) rfl) rfl rfl rfl ?_
  refine qev.mono h (fun v _ _ _ h => ?_)
  obtain ⟨r1, rfl, h⟩ := h
  refine ⟨r1, rfl, ?_⟩
  refine e_next (pc' := 8) (ls' := [_, _, _]) rfl rfl ?_
  refine e_next (pc' := 9) rfl rfl ?_
  refine e_next (pc' := 10) rfl rfl ?_
  refine e_next (pc' := 11) rfl rfl ?_
  refine e_iconst (pc' := 12) rfl rfl kc_1 ?_
  refine e_next (pc' := 13) rfl rfl ?_
  refine e_cpI (pc' := 16) rfl (e_sV (as := [_]) (fun _ => rfl) (Or.inl rfl) rfl (hs.o rfl) rfl rfl (Nat.le_of_ble_eq_true rfl) (Nat.le_of_ble_eq_true rfl) rfl) rfl rfl rfl ?_
  refine qev.mono h (fun v _ _ _ h => ?_)
  obtain ⟨r2, rfl, h⟩ := h
  refine ⟨r2, rfl, ?_⟩
  refine e_icmp (r1 = r2) (pc' := 19) rfl rfl e_d (fun hc => ?_) (fun hc => ?_)
  · replace h := h.1 hc
    refine e_iconst (pc' := 29) rfl rfl kc_2 ?_
    exact e_iret rfl h
  · replace h := h.2 hc
    refine e_next (pc' := 20) rfl rfl ?_
    refine e_next (pc' := 21) rfl rfl ?_
    refine e_next (pc' := 22) rfl rfl ?_
    refine e_cpI (pc' := 25) rfl (e_sV (as := [_]) (fun _ => rfl) (Or.inl rfl) rfl (hs.o rfl) rfl rfl (Nat.le_of_ble_eq_true rfl) (Nat.le_of_ble_eq_true rfl) rfl) rfl rfl rfl ?_
    refine qev.mono h (fun v _ _ _ h => ?_)
    obtain ⟨r3, rfl, h⟩ := h
    refine ⟨r3, rfl, ?_⟩
    refine e_icmp (r1 ≤ r3) (pc' := 28) rfl rfl e_d (fun hc => ?_) (fun hc => ?_)
    · replace h := h.1 hc
      refine e_next (pc' := 31) rfl rfl ?_
      refine e_next (pc' := 32) rfl rfl ?_
      refine e_next (pc' := 33) rfl rfl ?_
      refine e_cpI (pc' := 36) rfl (e_sV (as := [_]) (fun _ => rfl) (Or.inl rfl) rfl (hs.o rfl) rfl rfl (Nat.le_of_ble_eq_true rfl) (Nat.le_of_ble_eq_true rfl) rfl) rfl rfl rfl ?_
      refine qev.mono h (fun v _ _ _ h => ?_)
      obtain ⟨r4, rfl, h⟩ := h
      refine ⟨r4, rfl, ?_⟩
      refine e_icmp (¬ r1 = r4) (pc' := 39) rfl rfl e_d (fun hc => ?_) (fun hc => ?_)
      · replace h := h.2 hc
        refine e_next (pc' := 42) rfl rfl ?_
        refine e_next (pc' := 43) rfl rfl ?_
        refine e_next (pc' := 44) rfl rfl ?_
        refine e_ciV (pc' := 47) rfl (e_sV (as := [_, _]) (fun _ => rfl) (Or.inl rfl) rfl (hs.o rfl) rfl rfl (Nat.le_of_ble_eq_true rfl) (Nat.le_of_ble_eq_true rfl) rfl) rfl rfl ?_
        refine qev.mono h (fun v _ I1 _ h => ?_)
        obtain ⟨rfl, h⟩ := h
        refine ⟨rfl, ?_⟩
        refine e_next (pc' := 48) rfl rfl ?_
        refine e_next (pc' := 49) rfl rfl ?_
        refine e_iconst (pc' := 50) rfl rfl kc_1 ?_
        refine e_next (pc' := 51) rfl rfl ?_
        refine e_next (pc' := 52) rfl rfl ?_
        refine e_ciV (pc' := 55) rfl (e_sV (as := [_, _]) (fun _ => rfl) (Or.inl rfl) rfl (hs.o rfl) rfl rfl (Nat.le_of_ble_eq_true rfl) (Nat.le_of_ble_eq_true rfl) rfl) rfl rfl ?_
        refine qev.mono h (fun v _ I2 _ h => ?_)
        obtain ⟨rfl, h⟩ := h
        refine ⟨rfl, ?_⟩
        refine e_next (pc' := 56) rfl rfl ?_
        refine e_next (pc' := 57) rfl rfl ?_
        refine e_iconst (pc' := 58) rfl rfl kc_1 ?_
        refine e_next (pc' := 59) rfl rfl ?_
        refine e_bipush (pc' := 61) rfl rfl kb_40 ?_
        refine e_ciV (pc' := 64) rfl (e_sV (as := [_, _]) (fun _ => rfl) (Or.inl rfl) rfl (hs.o rfl) rfl rfl (Nat.le_of_ble_eq_true rfl) (Nat.le_of_ble_eq_true rfl) rfl) rfl rfl ?_
        refine qev.mono h (fun v _ I3 _ h => ?_)
        obtain ⟨rfl, h⟩ := h
        refine ⟨rfl, ?_⟩
        refine e_next (pc' := 65) rfl rfl ?_
        refine e_next (pc' := 66) rfl rfl ?_
        refine e_bipush (pc' := 68) rfl rfl kb_40 ?_
        refine e_bipush (pc' := 70) rfl rfl kb_41 ?_
        refine e_ciV (pc' := 73) rfl (e_sV (as := [_, _, _]) (fun _ => rfl) (Or.inl rfl) rfl (hs.o rfl) rfl rfl (Nat.le_of_ble_eq_true rfl) (Nat.le_of_ble_eq_true rfl) rfl) rfl rfl ?_
        refine qev.mono h (fun v _ I4 _ h => ?_)
        obtain ⟨rfl, h⟩ := h
        refine ⟨rfl, ?_⟩
        refine e_next (pc' := 74) rfl rfl ?_
        refine e_bipush (pc' := 76) rfl rfl kb_41 ?_
        refine e_next (pc' := 77) rfl rfl ?_
        refine e_ciV (pc' := 80) rfl (e_sV (as := [_, _]) (fun _ => rfl) (Or.inl rfl) rfl (hs.o rfl) rfl rfl (Nat.le_of_ble_eq_true rfl) (Nat.le_of_ble_eq_true rfl) rfl) rfl rfl ?_
        refine qev.mono h (fun v _ I5 _ h => ?_)
        obtain ⟨rfl, h⟩ := h
        refine ⟨rfl, ?_⟩
        refine e_iconst (pc' := 81) rfl rfl kc_m1 ?_
        exact e_iret rfl h
      · replace h := h.1 (Decidable.not_not.mp hc)
        refine e_iconst (pc' := 40) rfl rfl kc_5 ?_
        exact e_iret rfl h
    · replace h := h.2 hc
      refine e_iconst (pc' := 29) rfl rfl kc_2 ?_
      exact e_iret rfl h
theorem w196 {d : Nat} {x1 : Int32} {x2 : Int32} {g : qG} {I : qI} {J : qJ} {Q : qQ} (hs : qSh g)  (h : ((x2 = 0 → qC d 178 [.ref 105, .long (lN 1)] g I J (fun v _ _ _ => ∃ r1, v = some (.int r1) ∧ qC d 187 [.ref 105, .int x1, .int r1] g I J (fun v _ I2 _ => v = none ∧ Q (some (.int (-1))) g I2 J))) ∧ (¬ x2 = 0 → qC d 184 [.ref 105, .int x1, .int (nI 40)] g I J (fun v _ I1 _ => v = none ∧ qev (d + 1) 196 (25, [.ref 105, .int x1, .int x2, .int (nI 1)], [], g, I1, J) Q)))) : qC (d + 1) 196 [.ref 105, .int x1, .int x2] g I J Q := by
  show qev (d + 1) 196 (0, [.ref 105, .int x1, .int x2, qpad], [], g, I, J) Q
  refine e_next (pc' := 1) rfl rfl ?_
  refine e_if (¬ x2 = 0) (pc' := 4) rfl rfl e_d (fun hc => ?_) (fun hc => ?_)
  · replace h := h.2 hc
    refine e_next (pc' := 17) rfl rfl ?_
    refine e_next (pc' := 18) rfl rfl ?_
    refine e_bipush (pc' := 20) rfl rfl kb_40 ?_
    refine e_ciV (pc' := 23) rfl (e_sV (as := [_, _]) (fun _ => rfl) (Or.inl rfl) rfl (hs.o rfl) rfl rfl (Nat.le_of_ble_eq_true rfl) (Nat.le_of_ble_eq_true rfl) rfl) rfl rfl ?_
    refine qev.mono h (fun v _ I1 _ h => ?_)
    obtain ⟨rfl, h⟩ := h
    refine ⟨rfl, ?_⟩
    refine e_iconst (pc' := 24) rfl rfl kc_1 ?_
    refine e_next (pc' := 25) (ls' := [_, _, _, _]) rfl rfl ?_
    exact h
  · replace h := h.1 (Decidable.not_not.mp hc)
    refine e_next (pc' := 5) rfl rfl ?_
    refine e_next (pc' := 6) rfl rfl ?_
    refine e_next (pc' := 7) rfl rfl ?_
    refine e_lconst (pc' := 8) rfl rfl kl_1 ?_
    refine e_cpI (pc' := 11) rfl (e_sV (as := [_]) (fun _ => rfl) (Or.inl rfl) rfl (hs.o rfl) rfl rfl (Nat.le_of_ble_eq_true rfl) (Nat.le_of_ble_eq_true rfl) rfl) rfl rfl rfl ?_
    refine qev.mono h (fun v _ _ _ h => ?_)
    obtain ⟨r1, rfl, h⟩ := h
    refine ⟨r1, rfl, ?_⟩
    refine e_ciV (pc' := 14) rfl (e_sV (as := [_, _]) (fun _ => rfl) (Or.inl rfl) rfl (hs.o rfl) rfl rfl (Nat.le_of_ble_eq_true rfl) (Nat.le_of_ble_eq_true rfl) rfl) rfl rfl ?_
    refine qev.mono h (fun v _ I2 _ h => ?_)
    obtain ⟨rfl, h⟩ := h
    refine ⟨rfl, ?_⟩
    refine e_iconst (pc' := 15) rfl rfl kc_m1 ?_
    exact e_iret rfl h
theorem w196_25 {d : Nat} {i1 : Int32} {i2 : Int32} {i3 : Int32} {g : qG} {I : qI} {J : qJ} {Q : qQ} (hs : qSh g)  (h : ((i2 ≤ i3 → Q (some (.int (-1))) g I J) ∧ (¬ i2 ≤ i3 → qC d 189 [.ref 105, .int i1, .int (nI 40), .int (nI 41)] g I J (fun v _ I1 _ => v = none ∧ qC d 184 [.ref 105, .int (nI 41), .int i1] g I1 J (fun v _ I2 _ => v = none ∧ qev (d + 1) 196 (25, [.ref 105, .int i1, .int i2, .int (i3 + (nI 1))], [], g, I2, J) Q))))) : qev (d + 1) 196 (25, [.ref 105, .int i1, .int i2, .int i3], [], g, I, J) Q := by
  refine e_next (pc' := 26) rfl rfl ?_
  refine e_next (pc' := 27) rfl rfl ?_
  refine e_icmp (i2 ≤ i3) (pc' := 30) rfl rfl e_d (fun hc => ?_) (fun hc => ?_)
  · replace h := h.1 hc
    refine e_iconst (pc' := 53) rfl rfl kc_m1 ?_
    exact e_iret rfl h
  · replace h := h.2 hc
    refine e_next (pc' := 31) rfl rfl ?_
    refine e_next (pc' := 32) rfl rfl ?_
    refine e_bipush (pc' := 34) rfl rfl kb_40 ?_
    refine e_bipush (pc' := 36) rfl rfl kb_41 ?_
    refine e_ciV (pc' := 39) rfl (e_sV (as := [_, _, _]) (fun _ => rfl) (Or.inl rfl) rfl (hs.o rfl) rfl rfl (Nat.le_of_ble_eq_true rfl) (Nat.le_of_ble_eq_true rfl) rfl) rfl rfl ?_
    refine qev.mono h (fun v _ I1 _ h => ?_)
    obtain ⟨rfl, h⟩ := h
    refine ⟨rfl, ?_⟩
    refine e_next (pc' := 40) rfl rfl ?_
    refine e_bipush (pc' := 42) rfl rfl kb_41 ?_
    refine e_next (pc' := 43) rfl rfl ?_
    refine e_ciV (pc' := 46) rfl (e_sV (as := [_, _]) (fun _ => rfl) (Or.inl rfl) rfl (hs.o rfl) rfl rfl (Nat.le_of_ble_eq_true rfl) (Nat.le_of_ble_eq_true rfl) rfl) rfl rfl ?_
    refine qev.mono h (fun v _ I2 _ h => ?_)
    obtain ⟨rfl, h⟩ := h
    refine ⟨rfl, ?_⟩
    refine e_iinc (pc' := 49) (ls' := [_, _, _, _]) (v := (nI 1)) rfl rfl kc_1 rfl rfl ?_
    refine e_next (pc' := 25) rfl rfl ?_
    exact h
theorem w197 {d : Nat} {x1 : Int32} {g : qG} {I : qI} {J : qJ} {Q : qQ} (hs : qSh g)  (h : qC d 180 [.ref 105, .int x1] g I J (fun v _ _ _ => ∃ r1, v = some (.int r1) ∧ (((r1 - (nI 1)) = 0 → Q (some (.int (nI 5))) g I J) ∧ (¬ (r1 - (nI 1)) = 0 → qev (d + 1) 197 (16, [.ref 105, .int x1, .int (r1 - (nI 1)), .int (nI 0)], [], g, I, J) Q)))) : qC (d + 1) 197 [.ref 105, .int x1] g I J Q := by
  show qev (d + 1) 197 (0, [.ref 105, .int x1, qpad, qpad], [], g, I, J) Q
  refine e_next (pc' := 1) rfl rfl ?_
  refine e_next (pc' := 2) rfl rfl ?_
  refine e_cpI (pc' := 5) rfl (e_sV (as := [_]) (fun _ => rfl) (Or.inl rfl) rfl (hs.o rfl) rfl rfl (Nat.le_of_ble_eq_true rfl) (Nat.le_of_ble_eq_true rfl) rfl) rfl rfl rfl ?_
  refine qev.mono h (fun v _ _ _ h => ?_)
  obtain ⟨r1, rfl, h⟩ := h
  refine ⟨r1, rfl, ?_⟩
  refine e_iconst (pc' := 6) rfl rfl kc_1 ?_
  refine e_next (pc' := 7) rfl rfl ?_
  refine e_next (pc' := 8) (ls' := [_, _, _, _]) rfl rfl ?_
  refine e_next (pc' := 9) rfl rfl ?_
  refine e_if (¬ (r1 - (nI 1)) = 0) (pc' := 12) rfl rfl e_d (fun hc => ?_) (fun hc => ?_)
  · replace h := h.2 hc
    refine e_iconst (pc' := 15) rfl rfl kc_0 ?_
    refine e_next (pc' := 16) (ls' := [_, _, _, _]) rfl rfl ?_
    exact h
  · replace h := h.1 (Decidable.not_not.mp hc)
    refine e_iconst (pc' := 13) rfl rfl kc_5 ?_
    exact e_iret rfl h
theorem w197_16 {d : Nat} {i1 : Int32} {i2 : Int32} {i3 : Int32} {g : qG} {I : qI} {J : qJ} {Q : qQ} (hs : qSh g)  (h : ((i2 ≤ i3 → qC d 181 [.ref 105, .int i1, .int i2] g I J (fun v _ I1 _ => v = none ∧ Q (some (.int (-1))) g I1 J)) ∧ (¬ i2 ≤ i3 → qC d 182 [.ref 105, .int i1, .int (i3 + (nI 1))] g I J (fun v _ _ _ => ∃ r1, v = some (.int r1) ∧ qC d 178 [.ref 105, .long ((Int32.toInt64 (i3 + (nI 1))) * (Int32.toInt64 r1))] g I J (fun v _ _ _ => ∃ r2, v = some (.int r2) ∧ qC d 183 [.ref 105, .int i1, .int i3, .int r2] g I J (fun v _ I2 _ => v = none ∧ qev (d + 1) 197 (16, [.ref 105, .int i1, .int i2, .int (i3 + (nI 1))], [], g, I2, J) Q)))))) : qev (d + 1) 197 (16, [.ref 105, .int i1, .int i2, .int i3], [], g, I, J) Q := by
  refine e_next (pc' := 17) rfl rfl ?_
  refine e_next (pc' := 18) rfl rfl ?_
  refine e_icmp (i2 ≤ i3) (pc' := 21) rfl rfl e_d (fun hc => ?_) (fun hc => ?_)
  · replace h := h.1 hc
    refine e_next (pc' := 52) rfl rfl ?_
    refine e_next (pc' := 53) rfl rfl ?_
    refine e_next (pc' := 54) rfl rfl ?_
    refine e_ciV (pc' := 57) rfl (e_sV (as := [_, _]) (fun _ => rfl) (Or.inl rfl) rfl (hs.o rfl) rfl rfl (Nat.le_of_ble_eq_true rfl) (Nat.le_of_ble_eq_true rfl) rfl) rfl rfl ?_
    refine qev.mono h (fun v _ I1 _ h => ?_)
    obtain ⟨rfl, h⟩ := h
    refine ⟨rfl, ?_⟩
    refine e_iconst (pc' := 58) rfl rfl kc_m1 ?_
    exact e_iret rfl h
  · replace h := h.2 hc
    refine e_next (pc' := 22) rfl rfl ?_
    refine e_next (pc' := 23) rfl rfl ?_
    refine e_next (pc' := 24) rfl rfl ?_
    refine e_next (pc' := 25) rfl rfl ?_
    refine e_next (pc' := 26) rfl rfl ?_
    refine e_iconst (pc' := 27) rfl rfl kc_1 ?_
    refine e_next (pc' := 28) rfl rfl ?_
    refine e_next (pc' := 29) rfl rfl ?_
    refine e_next (pc' := 30) rfl rfl ?_
    refine e_next (pc' := 31) rfl rfl ?_
    refine e_next (pc' := 32) rfl rfl ?_
    refine e_iconst (pc' := 33) rfl rfl kc_1 ?_
    refine e_next (pc' := 34) rfl rfl ?_
    refine e_cpI (pc' := 37) rfl (e_sV (as := [_, _]) (fun _ => rfl) (Or.inl rfl) rfl (hs.o rfl) rfl rfl (Nat.le_of_ble_eq_true rfl) (Nat.le_of_ble_eq_true rfl) rfl) rfl rfl rfl ?_
    refine qev.mono h (fun v _ _ _ h => ?_)
    obtain ⟨r1, rfl, h⟩ := h
    refine ⟨r1, rfl, ?_⟩
    refine e_next (pc' := 38) rfl rfl ?_
    refine e_next (pc' := 39) rfl rfl ?_
    refine e_cpI (pc' := 42) rfl (e_sV (as := [_]) (fun _ => rfl) (Or.inl rfl) rfl (hs.o rfl) rfl rfl (Nat.le_of_ble_eq_true rfl) (Nat.le_of_ble_eq_true rfl) rfl) rfl rfl rfl ?_
    refine qev.mono h (fun v _ _ _ h => ?_)
    obtain ⟨r2, rfl, h⟩ := h
    refine ⟨r2, rfl, ?_⟩
    refine e_ciV (pc' := 45) rfl (e_sV (as := [_, _, _]) (fun _ => rfl) (Or.inl rfl) rfl (hs.o rfl) rfl rfl (Nat.le_of_ble_eq_true rfl) (Nat.le_of_ble_eq_true rfl) rfl) rfl rfl ?_
    refine qev.mono h (fun v _ I2 _ h => ?_)
    obtain ⟨rfl, h⟩ := h
    refine ⟨rfl, ?_⟩
    refine e_iinc (pc' := 48) (ls' := [_, _, _, _]) (v := (nI 1)) rfl rfl kc_1 rfl rfl ?_
    refine e_next (pc' := 16) rfl rfl ?_
    exact h
theorem w198 {d : Nat} {x1 : Int32} {g : qG} {I : qI} {J : qJ} {Q : qQ} (hs : qSh g)  (h : qC d 180 [.ref 105, .int x1] g I J (fun v _ _ _ => ∃ r1, v = some (.int r1) ∧ qC d 186 [.int (r1 + (nI 1)), .int (I 105 8)] g I J (fun v _ _ _ => ∃ r2, v = some (.int r2) ∧ ((r2 ≤ (I 105 7) → qC d 184 [.ref 105, .int x1, .int (nI 40)] g I J (fun v _ I1 _ => v = none ∧ qC d 181 [.ref 105, .int x1, .int r2] g I1 J (fun v _ I2 _ => v = none ∧ qC d 183 [.ref 105, .int x1, .int (nI 0), .int (nI 0)] g I2 J (fun v _ I3 _ => v = none ∧ qev (d + 1) 198 (66, [.ref 105, .int x1, .int r2, .int (nI 1)], [], g, I3, J) Q)))) ∧ (¬ r2 ≤ (I 105 7) → qC d 182 [.ref 105, .int x1, .int ((I 105 7) - (nI 1))] g I J (fun v _ _ _ => ∃ r3, v = some (.int r3) ∧ ((r3 = 0 → qC d 184 [.ref 105, .int x1, .int (nI 40)] g I J (fun v _ I4 _ => v = none ∧ qC d 181 [.ref 105, .int x1, .int (I 105 7)] g I4 J (fun v _ I5 _ => v = none ∧ qC d 183 [.ref 105, .int x1, .int (nI 0), .int (nI 0)] g I5 J (fun v _ I6 _ => v = none ∧ qev (d + 1) 198 (66, [.ref 105, .int x1, .int (I 105 7), .int (nI 1)], [], g, I6, J) Q)))) ∧ (¬ r3 = 0 → Q (some (.int (nI 3))) g I J)))))))) : qC (d + 1) 198 [.ref 105, .int x1] g I J Q := by
  show qev (d + 1) 198 (0, [.ref 105, .int x1, qpad, qpad], [], g, I, J) Q
  refine e_next (pc' := 1) rfl rfl ?_
  refine e_next (pc' := 2) rfl rfl ?_
  refine e_cpI (pc' := 5) rfl (e_sV (as := [_]) (fun _ => rfl) (Or.inl rfl) rfl (hs.o rfl) rfl rfl (Nat.le_of_ble_eq_true rfl) (Nat.le_of_ble_eq_true rfl) rfl) rfl rfl rfl ?_
  refine qev.mono h (fun v _ _ _ h => ?_)
  obtain ⟨r1, rfl, h⟩ := h
  refine ⟨r1, rfl, ?_⟩
  refine e_iconst (pc' := 6) rfl rfl kc_1 ?_
  refine e_next (pc' := 7) rfl rfl ?_
  refine e_next (pc' := 8) rfl rfl ?_
  refine e_getI (pc' := 11) rfl (Or.inl rfl) rfl (hs.o rfl) ?_
  refine e_cpI (pc' := 14) rfl (e_sS (as := [_, _]) (fun _ => rfl) rfl (Nat.le_of_ble_eq_true rfl) rfl rfl (Nat.le_of_ble_eq_true rfl) (Nat.le_of_ble_eq_true rfl) rfl) rfl rfl rfl ?_
  refine qev.mono h (fun v _ _ _ h => ?_)
  obtain ⟨r2, rfl, h⟩ := h
  refine ⟨r2, rfl, ?_⟩
  refine e_next (pc' := 15) (ls' := [_, _, _, _]) rfl rfl ?_
  refine e_next (pc' := 16) rfl rfl ?_
  refine e_next (pc' := 17) rfl rfl ?_
  refine e_getI (pc' := 20) rfl (Or.inl rfl) rfl (hs.o rfl) ?_
  refine e_icmp (r2 ≤ (I 105 7)) (pc' := 23) rfl rfl e_d (fun hc => ?_) (fun hc => ?_)
  · replace h := h.1 hc
    refine e_next (pc' := 45) rfl rfl ?_
    refine e_next (pc' := 46) rfl rfl ?_
    refine e_bipush (pc' := 48) rfl rfl kb_40 ?_
    refine e_ciV (pc' := 51) rfl (e_sV (as := [_, _]) (fun _ => rfl) (Or.inl rfl) rfl (hs.o rfl) rfl rfl (Nat.le_of_ble_eq_true rfl) (Nat.le_of_ble_eq_true rfl) rfl) rfl rfl ?_
    refine qev.mono h (fun v _ I1 _ h => ?_)
    obtain ⟨rfl, h⟩ := h
    refine ⟨rfl, ?_⟩
    refine e_next (pc' := 52) rfl rfl ?_
    refine e_next (pc' := 53) rfl rfl ?_
    refine e_next (pc' := 54) rfl rfl ?_
    refine e_ciV (pc' := 57) rfl (e_sV (as := [_, _]) (fun _ => rfl) (Or.inl rfl) rfl (hs.o rfl) rfl rfl (Nat.le_of_ble_eq_true rfl) (Nat.le_of_ble_eq_true rfl) rfl) rfl rfl ?_
    refine qev.mono h (fun v _ I2 _ h => ?_)
    obtain ⟨rfl, h⟩ := h
    refine ⟨rfl, ?_⟩
    refine e_next (pc' := 58) rfl rfl ?_
    refine e_next (pc' := 59) rfl rfl ?_
    refine e_iconst (pc' := 60) rfl rfl kc_0 ?_
    refine e_iconst (pc' := 61) rfl rfl kc_0 ?_
    refine e_ciV (pc' := 64) rfl (e_sV (as := [_, _, _]) (fun _ => rfl) (Or.inl rfl) rfl (hs.o rfl) rfl rfl (Nat.le_of_ble_eq_true rfl) (Nat.le_of_ble_eq_true rfl) rfl) rfl rfl ?_
    refine qev.mono h (fun v _ I3 _ h => ?_)
    obtain ⟨rfl, h⟩ := h
    refine ⟨rfl, ?_⟩
    refine e_iconst (pc' := 65) rfl rfl kc_1 ?_
    refine e_next (pc' := 66) (ls' := [_, _, _, _]) rfl rfl ?_
    exact h
  · replace h := h.2 hc
    refine e_next (pc' := 24) rfl rfl ?_
    refine e_next (pc' := 25) rfl rfl ?_
    refine e_next (pc' := 26) rfl rfl ?_
    refine e_getI (pc' := 29) rfl (Or.inl rfl) rfl (hs.o rfl) ?_
    refine e_iconst (pc' := 30) rfl rfl kc_1 ?_
    refine e_next (pc' := 31) rfl rfl ?_
    refine e_cpI (pc' := 34) rfl (e_sV (as := [_, _]) (fun _ => rfl) (Or.inl rfl) rfl (hs.o rfl) rfl rfl (Nat.le_of_ble_eq_true rfl) (Nat.le_of_ble_eq_true rfl) rfl) rfl rfl rfl ?_
    refine qev.mono h (fun v _ _ _ h => ?_)
    obtain ⟨r3, rfl, h⟩ := h
    refine ⟨r3, rfl, ?_⟩
    refine e_if (r3 = 0) (pc' := 37) rfl rfl e_d (fun hc => ?_) (fun hc => ?_)
    · replace h := h.1 hc
      refine e_next (pc' := 40) rfl rfl ?_
      refine e_getI (pc' := 43) rfl (Or.inl rfl) rfl (hs.o rfl) ?_
      refine e_next (pc' := 44) (ls' := [_, _, _, _]) rfl rfl ?_
      refine e_next (pc' := 45) rfl rfl ?_
      refine e_next (pc' := 46) rfl rfl ?_
      refine e_bipush (pc' := 48) rfl rfl kb_40 ?_
      refine e_ciV (pc' := 51) rfl (e_sV (as := [_, _]) (fun _ => rfl) (Or.inl rfl) rfl (hs.o rfl) rfl rfl (Nat.le_of_ble_eq_true rfl) (Nat.le_of_ble_eq_true rfl) rfl) rfl rfl ?_
      refine qev.mono h (fun v _ I4 _ h => ?_)
      obtain ⟨rfl, h⟩ := h
      refine ⟨rfl, ?_⟩
      refine e_next (pc' := 52) rfl rfl ?_
      refine e_next (pc' := 53) rfl rfl ?_
      refine e_next (pc' := 54) rfl rfl ?_
      refine e_ciV (pc' := 57) rfl (e_sV (as := [_, _]) (fun _ => rfl) (Or.inl rfl) rfl (hs.o rfl) rfl rfl (Nat.le_of_ble_eq_true rfl) (Nat.le_of_ble_eq_true rfl) rfl) rfl rfl ?_
      refine qev.mono h (fun v _ I5 _ h => ?_)
      obtain ⟨rfl, h⟩ := h
      refine ⟨rfl, ?_⟩
      refine e_next (pc' := 58) rfl rfl ?_
      refine e_next (pc' := 59) rfl rfl ?_
      refine e_iconst (pc' := 60) rfl rfl kc_0 ?_
      refine e_iconst (pc' := 61) rfl rfl kc_0 ?_
      refine e_ciV (pc' := 64) rfl (e_sV (as := [_, _, _]) (fun _ => rfl) (Or.inl rfl) rfl (hs.o rfl) rfl rfl (Nat.le_of_ble_eq_true rfl) (Nat.le_of_ble_eq_true rfl) rfl) rfl rfl ?_
      refine qev.mono h (fun v _ I6 _ h => ?_)
      obtain ⟨rfl, h⟩ := h
      refine ⟨rfl, ?_⟩
      refine e_iconst (pc' := 65) rfl rfl kc_1 ?_
      refine e_next (pc' := 66) (ls' := [_, _, _, _]) rfl rfl ?_
      exact h
    · replace h := h.2 hc
      refine e_iconst (pc' := 38) rfl rfl kc_3 ?_
      exact e_iret rfl h
theorem w198_66 {d : Nat} {i1 : Int32} {i2 : Int32} {i3 : Int32} {g : qG} {I : qI} {J : qJ} {Q : qQ} (hs : qSh g)  (h : ((i2 ≤ i3 → Q (some (.int (-1))) g I J) ∧ (¬ i2 ≤ i3 → qC d 182 [.ref 105, .int (nI 40), .int (i3 - (nI 1))] g I J (fun v _ _ _ => ∃ r1, v = some (.int r1) ∧ qC d 178 [.ref 105, .long (Int32.toInt64 i3)] g I J (fun v _ _ _ => ∃ r2, v = some (.int r2) ∧ qC d 179 [.ref 105, .int r2] g I J (fun v _ _ _ => ∃ r3, v = some (.int r3) ∧ qC d 178 [.ref 105, .long ((Int32.toInt64 r1) * (Int32.toInt64 r3))] g I J (fun v _ _ _ => ∃ r4, v = some (.int r4) ∧ qC d 183 [.ref 105, .int i1, .int i3, .int r4] g I J (fun v _ I1 _ => v = none ∧ qev (d + 1) 198 (66, [.ref 105, .int i1, .int i2, .int (i3 + (nI 1))], [], g, I1, J) Q)))))))) : qev (d + 1) 198 (66, [.ref 105, .int i1, .int i2, .int i3], [], g, I, J) Q := by
  refine e_next (pc' := 67) rfl rfl ?_
  refine e_next (pc' := 68) rfl rfl ?_
  refine e_icmp (i2 ≤ i3) (pc' := 71) rfl rfl e_d (fun hc => ?_) (fun hc => ?_)
  · replace h := h.1 hc
    refine e_iconst (pc' := 110) rfl rfl kc_m1 ?_
    exact e_iret rfl h
  · replace h := h.2 hc
    refine e_next (pc' := 72) rfl rfl ?_
    refine e_next (pc' := 73) rfl rfl ?_
    refine e_next (pc' := 74) rfl rfl ?_
    refine e_next (pc' := 75) rfl rfl ?_
    refine e_next (pc' := 76) rfl rfl ?_
    refine e_bipush (pc' := 78) rfl rfl kb_40 ?_
    refine e_next (pc' := 79) rfl rfl ?_
    refine e_iconst (pc' := 80) rfl rfl kc_1 ?_
    refine e_next (pc' := 81) rfl rfl ?_
    refine e_cpI (pc' := 84) rfl (e_sV (as := [_, _]) (fun _ => rfl) (Or.inl rfl) rfl (hs.o rfl) rfl rfl (Nat.le_of_ble_eq_true rfl) (Nat.le_of_ble_eq_true rfl) rfl) rfl rfl rfl ?_
    refine qev.mono h (fun v _ _ _ h => ?_)
    obtain ⟨r1, rfl, h⟩ := h
    refine ⟨r1, rfl, ?_⟩
    refine e_next (pc' := 85) rfl rfl ?_
    refine e_next (pc' := 86) rfl rfl ?_
    refine e_next (pc' := 87) rfl rfl ?_
    refine e_next (pc' := 88) rfl rfl ?_
    refine e_next (pc' := 89) rfl rfl ?_
    refine e_cpI (pc' := 92) rfl (e_sV (as := [_]) (fun _ => rfl) (Or.inl rfl) rfl (hs.o rfl) rfl rfl (Nat.le_of_ble_eq_true rfl) (Nat.le_of_ble_eq_true rfl) rfl) rfl rfl rfl ?_
    refine qev.mono h (fun v _ _ _ h => ?_)
    obtain ⟨r2, rfl, h⟩ := h
    refine ⟨r2, rfl, ?_⟩
    refine e_cpI (pc' := 95) rfl (e_sV (as := [_]) (fun _ => rfl) (Or.inl rfl) rfl (hs.o rfl) rfl rfl (Nat.le_of_ble_eq_true rfl) (Nat.le_of_ble_eq_true rfl) rfl) rfl rfl rfl ?_
    refine qev.mono h (fun v _ _ _ h => ?_)
    obtain ⟨r3, rfl, h⟩ := h
    refine ⟨r3, rfl, ?_⟩
    refine e_next (pc' := 96) rfl rfl ?_
    refine e_next (pc' := 97) rfl rfl ?_
    refine e_cpI (pc' := 100) rfl (e_sV (as := [_]) (fun _ => rfl) (Or.inl rfl) rfl (hs.o rfl) rfl rfl (Nat.le_of_ble_eq_true rfl) (Nat.le_of_ble_eq_true rfl) rfl) rfl rfl rfl ?_
    refine qev.mono h (fun v _ _ _ h => ?_)
    obtain ⟨r4, rfl, h⟩ := h
    refine ⟨r4, rfl, ?_⟩
    refine e_ciV (pc' := 103) rfl (e_sV (as := [_, _, _]) (fun _ => rfl) (Or.inl rfl) rfl (hs.o rfl) rfl rfl (Nat.le_of_ble_eq_true rfl) (Nat.le_of_ble_eq_true rfl) rfl) rfl rfl ?_
    refine qev.mono h (fun v _ I1 _ h => ?_)
    obtain ⟨rfl, h⟩ := h
    refine ⟨rfl, ?_⟩
    refine e_iinc (pc' := 106) (ls' := [_, _, _, _]) (v := (nI 1)) rfl rfl kc_1 rfl rfl ?_
    refine e_next (pc' := 66) rfl rfl ?_
    exact h
theorem w199 {d : Nat} {x1 : Int32} {g : qG} {I : qI} {J : qJ} {Q : qQ} (hs : qSh g)  (h : qC d 182 [.ref 105, .int x1, .int (nI 0)] g I J (fun v _ _ _ => ∃ r1, v = some (.int r1) ∧ qC d 178 [.ref 105, .long (lN 1)] g I J (fun v _ _ _ => ∃ r2, v = some (.int r2) ∧ ((r1 = r2 → qC d 180 [.ref 105, .int x1] g I J (fun v _ _ _ => ∃ r3, v = some (.int r3) ∧ ((r3 = (nI 1) → qC d 183 [.ref 105, .int x1, .int (nI 0), .int (nI 0)] g I J (fun v _ I6 _ => v = none ∧ Q (some (.int (-1))) g I6 J)) ∧ (¬ r3 = (nI 1) → qC d 190 [.ref 105, .int x1, .int (nI 40)] g I J (fun v _ I1 _ => v = none ∧ qC d 197 [.ref 105, .int x1] g I1 J (fun v _ I2 _ => ∃ r4, v = some (.int r4) ∧ qC d 189 [.ref 105, .int x1, .int (nI 40), .int (nI 41)] g I2 J (fun v _ I3 _ => v = none ∧ qC d 184 [.ref 105, .int (nI 41), .int x1] g I3 J (fun v _ I4 _ => v = none ∧ ((r4 = (-1) → qC d 198 [.ref 105, .int x1] g I4 J (fun v _ I5 _ => ∃ r5, v = some (.int r5) ∧ Q (some (.int r5)) g I5 J)) ∧ (¬ r4 = (-1) → Q (some (.int r4)) g I4 J)))))))))) ∧ (¬ r1 = r2 → Q (some (.int (nI 2))) g I J))))) : qC (d + 1) 199 [.ref 105, .int x1] g I J Q := by
  show qev (d + 1) 199 (0, [.ref 105, .int x1, qpad], [], g, I, J) Q
  refine e_next (pc' := 1) rfl rfl ?_
  refine e_next (pc' := 2) rfl rfl ?_
  refine e_iconst (pc' := 3) rfl rfl kc_0 ?_
  refine e_cpI (pc' := 6) rfl (e_sV (as := [_, _]) (fun _ => rfl) (Or.inl rfl) rfl (hs.o rfl) rfl rfl (Nat.le_of_ble_eq_true rfl) (Nat.le_of_ble_eq_true rfl) rfl) rfl rfl rfl ?_
  refine qev.mono h (fun v _ _ _ h => ?_)
  obtain ⟨r1, rfl, h⟩ := h
  refine ⟨r1, rfl, ?_⟩
  refine e_next (pc' := 7) rfl rfl ?_
  refine e_lconst (pc' := 8) rfl rfl kl_1 ?_
  refine e_cpI (pc' := 11) rfl (e_sV (as := [_]) (fun _ => rfl) (Or.inl rfl) rfl (hs.o rfl) rfl rfl (Nat.le_of_ble_eq_true rfl) (Nat.le_of_ble_eq_true rfl) rfl) rfl rfl rfl ?_
  refine qev.mono h (fun v _ _ _ h => ?_)
  obtain ⟨r2, rfl, h⟩ := h
  refine ⟨r2, rfl, ?_⟩
  refine e_icmp (r1 = r2) (pc' := 14) rfl rfl e_d (fun hc => ?_) (fun hc => ?_)
  · replace h := h.1 hc
    refine e_next (pc' := 17) rfl rfl ?_
    refine e_next (pc' := 18) rfl rfl ?_
    refine e_cpI (pc' := 21) rfl (e_sV (as := [_]) (fun _ => rfl) (Or.inl rfl) rfl (hs.o rfl) rfl rfl (Nat.le_of_ble_eq_true rfl) (Nat.le_of_ble_eq_true rfl) rfl) rfl rfl rfl ?_
    refine qev.mono h (fun v _ _ _ h => ?_)
    obtain ⟨r3, rfl, h⟩ := h
    refine ⟨r3, rfl, ?_⟩
    refine e_iconst (pc' := 22) rfl rfl kc_1 ?_
    refine e_icmp (¬ r3 = (nI 1)) (pc' := 25) rfl rfl e_d (fun hc => ?_) (fun hc => ?_)
    · replace h := h.2 hc
      refine e_next (pc' := 35) rfl rfl ?_
      refine e_next (pc' := 36) rfl rfl ?_
      refine e_bipush (pc' := 38) rfl rfl kb_40 ?_
      refine e_ciV (pc' := 41) rfl (e_sV (as := [_, _]) (fun _ => rfl) (Or.inl rfl) rfl (hs.o rfl) rfl rfl (Nat.le_of_ble_eq_true rfl) (Nat.le_of_ble_eq_true rfl) rfl) rfl rfl ?_
      refine qev.mono h (fun v _ I1 _ h => ?_)
      obtain ⟨rfl, h⟩ := h
      refine ⟨rfl, ?_⟩
      refine e_next (pc' := 42) rfl rfl ?_
      refine e_next (pc' := 43) rfl rfl ?_
      refine e_ciI (pc' := 46) rfl (e_sV (as := [_]) (fun _ => rfl) (Or.inl rfl) rfl (hs.o rfl) rfl rfl (Nat.le_of_ble_eq_true rfl) (Nat.le_of_ble_eq_true rfl) rfl) rfl rfl ?_
      refine qev.mono h (fun v _ I2 _ h => ?_)
      obtain ⟨r4, rfl, h⟩ := h
      refine ⟨r4, rfl, ?_⟩
      refine e_next (pc' := 47) (ls' := [_, _, _]) rfl rfl ?_
      refine e_next (pc' := 48) rfl rfl ?_
      refine e_next (pc' := 49) rfl rfl ?_
      refine e_bipush (pc' := 51) rfl rfl kb_40 ?_
      refine e_bipush (pc' := 53) rfl rfl kb_41 ?_
      refine e_ciV (pc' := 56) rfl (e_sV (as := [_, _, _]) (fun _ => rfl) (Or.inl rfl) rfl (hs.o rfl) rfl rfl (Nat.le_of_ble_eq_true rfl) (Nat.le_of_ble_eq_true rfl) rfl) rfl rfl ?_
      refine qev.mono h (fun v _ I3 _ h => ?_)
      obtain ⟨rfl, h⟩ := h
      refine ⟨rfl, ?_⟩
      refine e_next (pc' := 57) rfl rfl ?_
      refine e_bipush (pc' := 59) rfl rfl kb_41 ?_
      refine e_next (pc' := 60) rfl rfl ?_
      refine e_ciV (pc' := 63) rfl (e_sV (as := [_, _]) (fun _ => rfl) (Or.inl rfl) rfl (hs.o rfl) rfl rfl (Nat.le_of_ble_eq_true rfl) (Nat.le_of_ble_eq_true rfl) rfl) rfl rfl ?_
      refine qev.mono h (fun v _ I4 _ h => ?_)
      obtain ⟨rfl, h⟩ := h
      refine ⟨rfl, ?_⟩
      refine e_next (pc' := 64) rfl rfl ?_
      refine e_iconst (pc' := 65) rfl rfl kc_m1 ?_
      refine e_icmp (¬ r4 = (-1)) (pc' := 68) rfl rfl e_d (fun hc => ?_) (fun hc => ?_)
      · replace h := h.2 hc
        refine e_next (pc' := 77) rfl rfl ?_
        exact e_iret rfl h
      · replace h := h.1 (Decidable.not_not.mp hc)
        refine e_next (pc' := 69) rfl rfl ?_
        refine e_next (pc' := 70) rfl rfl ?_
        refine e_ciI (pc' := 73) rfl (e_sV (as := [_]) (fun _ => rfl) (Or.inl rfl) rfl (hs.o rfl) rfl rfl (Nat.le_of_ble_eq_true rfl) (Nat.le_of_ble_eq_true rfl) rfl) rfl rfl ?_
        refine qev.mono h (fun v _ I5 _ h => ?_)
        obtain ⟨r5, rfl, h⟩ := h
        refine ⟨r5, rfl, ?_⟩
        refine e_next (pc' := 77) rfl rfl ?_
        exact e_iret rfl h
    · replace h := h.1 (Decidable.not_not.mp hc)
      refine e_next (pc' := 26) rfl rfl ?_
      refine e_next (pc' := 27) rfl rfl ?_
      refine e_iconst (pc' := 28) rfl rfl kc_0 ?_
      refine e_iconst (pc' := 29) rfl rfl kc_0 ?_
      refine e_ciV (pc' := 32) rfl (e_sV (as := [_, _, _]) (fun _ => rfl) (Or.inl rfl) rfl (hs.o rfl) rfl rfl (Nat.le_of_ble_eq_true rfl) (Nat.le_of_ble_eq_true rfl) rfl) rfl rfl ?_
      refine qev.mono h (fun v _ I6 _ h => ?_)
      obtain ⟨rfl, h⟩ := h
      refine ⟨rfl, ?_⟩
      refine e_iconst (pc' := 33) rfl rfl kc_m1 ?_
      exact e_iret rfl h
  · replace h := h.2 hc
    refine e_iconst (pc' := 15) rfl rfl kc_2 ?_
    exact e_iret rfl h
theorem w200 {d : Nat} {x1 : Int32} {g : qG} {I : qI} {J : qJ} {Q : qQ} (hs : qSh g)  (h : qC d 182 [.ref 105, .int x1, .int (nI 0)] g I J (fun v _ _ _ => ∃ r1, v = some (.int r1) ∧ ((r1 = 0 → qC d 180 [.ref 105, .int x1] g I J (fun v _ _ _ => ∃ r2, v = some (.int r2) ∧ qC d 186 [.int r2, .int (I 105 7)] g I J (fun v _ _ _ => ∃ r3, v = some (.int r3) ∧ qC d 193 [.ref 105, .int (nI 40), .int r3] g I J (fun v _ I1 _ => v = none ∧ qC d 178 [.ref 105, .long (lN 1)] g I1 J (fun v _ _ _ => ∃ r4, v = some (.int r4) ∧ qC d 183 [.ref 105, .int (nI 40), .int (nI 0), .int r4] g I1 J (fun v _ I2 _ => v = none ∧ qev (d + 1) 200 (45, [.ref 105, .int x1, .int r3, .int (nI 1), qpad, qpad, qpad], [], g, I2, J) Q)))))) ∧ (¬ r1 = 0 → Q (some (.int (nI 2))) g I J)))) : qC (d + 1) 200 [.ref 105, .int x1] g I J Q := by
  show qev (d + 1) 200 (0, [.ref 105, .int x1, qpad, qpad, qpad, qpad, qpad], [], g, I, J) Q
  refine e_next (pc' := 1) rfl rfl ?_
  refine e_next (pc' := 2) rfl rfl ?_
  refine e_iconst (pc' := 3) rfl rfl kc_0 ?_
  refine e_cpI (pc' := 6) rfl (e_sV (as := [_, _]) (fun _ => rfl) (Or.inl rfl) rfl (hs.o rfl) rfl rfl (Nat.le_of_ble_eq_true rfl) (Nat.le_of_ble_eq_true rfl) rfl) rfl rfl rfl ?_
  refine qev.mono h (fun v _ _ _ h => ?_)
  obtain ⟨r1, rfl, h⟩ := h
  refine ⟨r1, rfl, ?_⟩
  refine e_if (r1 = 0) (pc' := 9) rfl rfl e_d (fun hc => ?_) (fun hc => ?_)
  · replace h := h.1 hc
    refine e_next (pc' := 12) rfl rfl ?_
    refine e_next (pc' := 13) rfl rfl ?_
    refine e_cpI (pc' := 16) rfl (e_sV (as := [_]) (fun _ => rfl) (Or.inl rfl) rfl (hs.o rfl) rfl rfl (Nat.le_of_ble_eq_true rfl) (Nat.le_of_ble_eq_true rfl) rfl) rfl rfl rfl ?_
    refine qev.mono h (fun v _ _ _ h => ?_)
    obtain ⟨r2, rfl, h⟩ := h
    refine ⟨r2, rfl, ?_⟩
    refine e_next (pc' := 17) rfl rfl ?_
    refine e_getI (pc' := 20) rfl (Or.inl rfl) rfl (hs.o rfl) ?_
    refine e_cpI (pc' := 23) rfl (e_sS (as := [_, _]) (fun _ => rfl) rfl (Nat.le_of_ble_eq_true rfl) rfl rfl (Nat.le_of_ble_eq_true rfl) (Nat.le_of_ble_eq_true rfl) rfl) rfl rfl rfl ?_
    refine qev.mono h (fun v _ _ _ h => ?_)
    obtain ⟨r3, rfl, h⟩ := h
    refine ⟨r3, rfl, ?_⟩
    refine e_next (pc' := 24) (ls' := [_, _, _, _, _, _, _]) rfl rfl ?_
    refine e_next (pc' := 25) rfl rfl ?_
    refine e_bipush (pc' := 27) rfl rfl kb_40 ?_
    refine e_next (pc' := 28) rfl rfl ?_
    refine e_ciV (pc' := 31) rfl (e_sV (as := [_, _]) (fun _ => rfl) (Or.inl rfl) rfl (hs.o rfl) rfl rfl (Nat.le_of_ble_eq_true rfl) (Nat.le_of_ble_eq_true rfl) rfl) rfl rfl ?_
    refine qev.mono h (fun v _ I1 _ h => ?_)
    obtain ⟨rfl, h⟩ := h
    refine ⟨rfl, ?_⟩
    refine e_next (pc' := 32) rfl rfl ?_
    refine e_bipush (pc' := 34) rfl rfl kb_40 ?_
    refine e_iconst (pc' := 35) rfl rfl kc_0 ?_
    refine e_next (pc' := 36) rfl rfl ?_
    refine e_lconst (pc' := 37) rfl rfl kl_1 ?_
    refine e_cpI (pc' := 40) rfl (e_sV (as := [_]) (fun _ => rfl) (Or.inl rfl) rfl (hs.o rfl) rfl rfl (Nat.le_of_ble_eq_true rfl) (Nat.le_of_ble_eq_true rfl) rfl) rfl rfl rfl ?_
    refine qev.mono h (fun v _ _ _ h => ?_)
    obtain ⟨r4, rfl, h⟩ := h
    refine ⟨r4, rfl, ?_⟩
    refine e_ciV (pc' := 43) rfl (e_sV (as := [_, _, _]) (fun _ => rfl) (Or.inl rfl) rfl (hs.o rfl) rfl rfl (Nat.le_of_ble_eq_true rfl) (Nat.le_of_ble_eq_true rfl) rfl) rfl rfl ?_
    refine qev.mono h (fun v _ I2 _ h => ?_)
    obtain ⟨rfl, h⟩ := h
    refine ⟨rfl, ?_⟩
    refine e_iconst (pc' := 44) rfl rfl kc_1 ?_
    refine e_next (pc' := 45) (ls' := [_, _, _, _, _, _, _]) rfl rfl ?_
    exact h
  · replace h := h.2 hc
    refine e_iconst (pc' := 10) rfl rfl kc_2 ?_
    exact e_iret rfl h
theorem w200_45 {d : Nat} {i1 : Int32} {i2 : Int32} {i3 : Int32} {w4 : Value} {w6 : Value} {g : qG} {I : qI} {J : qJ} {Q : qQ} (hs : qSh g)  (h : ((i2 ≤ i3 → qC d 184 [.ref 105, .int (nI 40), .int i1] g I J (fun v _ I1 _ => v = none ∧ Q (some (.int (-1))) g I1 J)) ∧ (¬ i2 ≤ i3 → qev (d + 1) 200 (56, [.ref 105, .int i1, .int i2, .int i3, .long (lN 0), qpad, .int (nI 1)], [], g, I, J) Q))) : qev (d + 1) 200 (45, [.ref 105, .int i1, .int i2, .int i3, w4, qpad, w6], [], g, I, J) Q := by
  refine e_next (pc' := 46) rfl rfl ?_
  refine e_next (pc' := 47) rfl rfl ?_
  refine e_icmp (i2 ≤ i3) (pc' := 50) rfl rfl e_d (fun hc => ?_) (fun hc => ?_)
  · replace h := h.1 hc
    refine e_next (pc' := 139) rfl rfl ?_
    refine e_bipush (pc' := 141) rfl rfl kb_40 ?_
    refine e_next (pc' := 142) rfl rfl ?_
    refine e_ciV (pc' := 145) rfl (e_sV (as := [_, _]) (fun _ => rfl) (Or.inl rfl) rfl (hs.o rfl) rfl rfl (Nat.le_of_ble_eq_true rfl) (Nat.le_of_ble_eq_true rfl) rfl) rfl rfl ?_
    refine qev.mono h (fun v _ I1 _ h => ?_)
    obtain ⟨rfl, h⟩ := h
    refine ⟨rfl, ?_⟩
    refine e_iconst (pc' := 146) rfl rfl kc_m1 ?_
    exact e_iret rfl h
  · replace h := h.2 hc
    refine e_lconst (pc' := 51) rfl rfl kl_0 ?_
    refine e_next (pc' := 53) (ls' := [_, _, _, _, _, _, _]) rfl rfl ?_
    refine e_iconst (pc' := 54) rfl rfl kc_1 ?_
    refine e_next (pc' := 56) (ls' := [_, _, _, _, _, _, _]) rfl rfl ?_
    exact h
theorem w200_56 {d : Nat} {i1 : Int32} {i2 : Int32} {i3 : Int32} {j4 : Int64} {i6 : Int32} {g : qG} {I : qI} {J : qJ} {Q : qQ} (hs : qSh g)  (h : ((i3 < i6 → qC d 178 [.ref 105, .long j4] g I J (fun v _ _ _ => ∃ r1, v = some (.int r1) ∧ qC d 178 [.ref 105, .long (Int32.toInt64 i3)] g I J (fun v _ _ _ => ∃ r2, v = some (.int r2) ∧ qC d 179 [.ref 105, .int r2] g I J (fun v _ _ _ => ∃ r3, v = some (.int r3) ∧ qC d 178 [.ref 105, .long ((Int32.toInt64 r1) * (Int32.toInt64 r3))] g I J (fun v _ _ _ => ∃ r4, v = some (.int r4) ∧ qC d 183 [.ref 105, .int (nI 40), .int i3, .int r4] g I J (fun v _ I1 _ => v = none ∧ qev (d + 1) 200 (45, [.ref 105, .int i1, .int i2, .int (i3 + (nI 1)), .long j4, qpad, .int i6], [], g, I1, J) Q)))))) ∧ (¬ i3 < i6 → qC d 182 [.ref 105, .int i1, .int i6] g I J (fun v _ _ _ => ∃ r5, v = some (.int r5) ∧ qC d 178 [.ref 105, .long ((Int32.toInt64 i6) * (Int32.toInt64 r5))] g I J (fun v _ _ _ => ∃ r6, v = some (.int r6) ∧ qC d 182 [.ref 105, .int (nI 40), .int (i3 - i6)] g I J (fun v _ _ _ => ∃ r7, v = some (.int r7) ∧ qev (d + 1) 200 (56, [.ref 105, .int i1, .int i2, .int i3, .long (j4 + ((Int32.toInt64 r6) * (Int32.toInt64 r7))), qpad, .int (i6 + (nI 1))], [], g, I, J) Q)))))) : qev (d + 1) 200 (56, [.ref 105, .int i1, .int i2, .int i3, .long j4, qpad, .int i6], [], g, I, J) Q := by
  refine e_next (pc' := 58) rfl rfl ?_
  refine e_next (pc' := 59) rfl rfl ?_
  refine e_icmp (i3 < i6) (pc' := 62) rfl rfl e_d (fun hc => ?_) (fun hc => ?_)
  · replace h := h.1 hc
    refine e_next (pc' := 103) rfl rfl ?_
    refine e_bipush (pc' := 105) rfl rfl kb_40 ?_
    refine e_next (pc' := 106) rfl rfl ?_
    refine e_next (pc' := 107) rfl rfl ?_
    refine e_next (pc' := 108) rfl rfl ?_
    refine e_next (pc' := 110) rfl rfl ?_
    refine e_cpI (pc' := 113) rfl (e_sV (as := [_]) (fun _ => rfl) (Or.inl rfl) rfl (hs.o rfl) rfl rfl (Nat.le_of_ble_eq_true rfl) (Nat.le_of_ble_eq_true rfl) rfl) rfl rfl rfl ?_
    refine qev.mono h (fun v _ _ _ h => ?_)
    obtain ⟨r1, rfl, h⟩ := h
    refine ⟨r1, rfl, ?_⟩
    refine e_next (pc' := 114) rfl rfl ?_
    refine e_next (pc' := 115) rfl rfl ?_
    refine e_next (pc' := 116) rfl rfl ?_
    refine e_next (pc' := 117) rfl rfl ?_
    refine e_next (pc' := 118) rfl rfl ?_
    refine e_cpI (pc' := 121) rfl (e_sV (as := [_]) (fun _ => rfl) (Or.inl rfl) rfl (hs.o rfl) rfl rfl (Nat.le_of_ble_eq_true rfl) (Nat.le_of_ble_eq_true rfl) rfl) rfl rfl rfl ?_
    refine qev.mono h (fun v _ _ _ h => ?_)
    obtain ⟨r2, rfl, h⟩ := h
    refine ⟨r2, rfl, ?_⟩
    refine e_cpI (pc' := 124) rfl (e_sV (as := [_]) (fun _ => rfl) (Or.inl rfl) rfl (hs.o rfl) rfl rfl (Nat.le_of_ble_eq_true rfl) (Nat.le_of_ble_eq_true rfl) rfl) rfl rfl rfl ?_
    refine qev.mono h (fun v _ _ _ h => ?_)
    obtain ⟨r3, rfl, h⟩ := h
    refine ⟨r3, rfl, ?_⟩
    refine e_next (pc' := 125) rfl rfl ?_
    refine e_next (pc' := 126) rfl rfl ?_
    refine e_cpI (pc' := 129) rfl (e_sV (as := [_]) (fun _ => rfl) (Or.inl rfl) rfl (hs.o rfl) rfl rfl (Nat.le_of_ble_eq_true rfl) (Nat.le_of_ble_eq_true rfl) rfl) rfl rfl rfl ?_
    refine qev.mono h (fun v _ _ _ h => ?_)
    obtain ⟨r4, rfl, h⟩ := h
    refine ⟨r4, rfl, ?_⟩
    refine e_ciV (pc' := 132) rfl (e_sV (as := [_, _, _]) (fun _ => rfl) (Or.inl rfl) rfl (hs.o rfl) rfl rfl (Nat.le_of_ble_eq_true rfl) (Nat.le_of_ble_eq_true rfl) rfl) rfl rfl ?_
    refine qev.mono h (fun v _ I1 _ h => ?_)
    obtain ⟨rfl, h⟩ := h
    refine ⟨rfl, ?_⟩
    refine e_iinc (pc' := 135) (ls' := [_, _, _, _, _, _, _]) (v := (nI 1)) rfl rfl kc_1 rfl rfl ?_
    refine e_next (pc' := 45) rfl rfl ?_
    exact h
  · replace h := h.2 hc
    refine e_next (pc' := 64) rfl rfl ?_
    refine e_next (pc' := 65) rfl rfl ?_
    refine e_next (pc' := 67) rfl rfl ?_
    refine e_next (pc' := 68) rfl rfl ?_
    refine e_next (pc' := 69) rfl rfl ?_
    refine e_next (pc' := 70) rfl rfl ?_
    refine e_next (pc' := 72) rfl rfl ?_
    refine e_cpI (pc' := 75) rfl (e_sV (as := [_, _]) (fun _ => rfl) (Or.inl rfl) rfl (hs.o rfl) rfl rfl (Nat.le_of_ble_eq_true rfl) (Nat.le_of_ble_eq_true rfl) rfl) rfl rfl rfl ?_
    refine qev.mono h (fun v _ _ _ h => ?_)
    obtain ⟨r5, rfl, h⟩ := h
    refine ⟨r5, rfl, ?_⟩
    refine e_next (pc' := 76) rfl rfl ?_
    refine e_next (pc' := 77) rfl rfl ?_
    refine e_cpI (pc' := 80) rfl (e_sV (as := [_]) (fun _ => rfl) (Or.inl rfl) rfl (hs.o rfl) rfl rfl (Nat.le_of_ble_eq_true rfl) (Nat.le_of_ble_eq_true rfl) rfl) rfl rfl rfl ?_
    refine qev.mono h (fun v _ _ _ h => ?_)
    obtain ⟨r6, rfl, h⟩ := h
    refine ⟨r6, rfl, ?_⟩
    refine e_next (pc' := 81) rfl rfl ?_
    refine e_next (pc' := 82) rfl rfl ?_
    refine e_bipush (pc' := 84) rfl rfl kb_40 ?_
    refine e_next (pc' := 85) rfl rfl ?_
    refine e_next (pc' := 87) rfl rfl ?_
    refine e_next (pc' := 88) rfl rfl ?_
    refine e_cpI (pc' := 91) rfl (e_sV (as := [_, _]) (fun _ => rfl) (Or.inl rfl) rfl (hs.o rfl) rfl rfl (Nat.le_of_ble_eq_true rfl) (Nat.le_of_ble_eq_true rfl) rfl) rfl rfl rfl ?_
    refine qev.mono h (fun v _ _ _ h => ?_)
    obtain ⟨r7, rfl, h⟩ := h
    refine ⟨r7, rfl, ?_⟩
    refine e_next (pc' := 92) rfl rfl ?_
    refine e_next (pc' := 93) rfl rfl ?_
    refine e_next (pc' := 94) rfl rfl ?_
    refine e_next (pc' := 96) (ls' := [_, _, _, _, _, _, _]) rfl rfl ?_
    refine e_iinc (pc' := 99) (ls' := [_, _, _, _, _, _, _]) (v := (nI 1)) rfl rfl kc_1 rfl rfl ?_
    refine e_next (pc' := 56) rfl rfl ?_
    exact h
theorem w201 {d : Nat} {x1 : Int32} {x2 : Int32} {x3 : Int32} {g : qG} {I : qI} {J : qJ} {Q : qQ} (hs : qSh g)  (h : qC d 184 [.ref 105, .int x2, .int (nI 41)] g I J (fun v _ I1 _ => v = none ∧ qC d 181 [.ref 105, .int (nI 41), .int (x3 + (nI 1))] g I1 J (fun v _ I2 _ => v = none ∧ qev (d + 1) 201 (22, [.ref 105, .int x1, .int x2, .int x3, .long (lN 0), qpad, .int (nI 1)], [], g, I2, J) Q))) : qC (d + 1) 201 [.ref 105, .int x1, .int x2, .int x3] g I J Q := by
  show qev (d + 1) 201 (0, [.ref 105, .int x1, .int x2, .int x3, qpad, qpad, qpad], [], g, I, J) Q
  refine e_lconst (pc' := 1) rfl rfl kl_0 ?_
  refine e_next (pc' := 3) (ls' := [_, _, _, _, _, _, _]) rfl rfl ?_
  refine e_next (pc' := 4) rfl rfl ?_
  refine e_next (pc' := 5) rfl rfl ?_
  refine e_bipush (pc' := 7) rfl rfl kb_41 ?_
  refine e_ciV (pc' := 10) rfl (e_sV (as := [_, _]) (fun _ => rfl) (Or.inl rfl) rfl (hs.o rfl) rfl rfl (Nat.le_of_ble_eq_true rfl) (Nat.le_of_ble_eq_true rfl) rfl) rfl rfl ?_
  refine qev.mono h (fun v _ I1 _ h => ?_)
  obtain ⟨rfl, h⟩ := h
  refine ⟨rfl, ?_⟩
  refine e_next (pc' := 11) rfl rfl ?_
  refine e_bipush (pc' := 13) rfl rfl kb_41 ?_
  refine e_next (pc' := 14) rfl rfl ?_
  refine e_iconst (pc' := 15) rfl rfl kc_1 ?_
  refine e_next (pc' := 16) rfl rfl ?_
  refine e_ciV (pc' := 19) rfl (e_sV (as := [_, _]) (fun _ => rfl) (Or.inl rfl) rfl (hs.o rfl) rfl rfl (Nat.le_of_ble_eq_true rfl) (Nat.le_of_ble_eq_true rfl) rfl) rfl rfl ?_
  refine qev.mono h (fun v _ I2 _ h => ?_)
  obtain ⟨rfl, h⟩ := h
  refine ⟨rfl, ?_⟩
  refine e_iconst (pc' := 20) rfl rfl kc_1 ?_
  refine e_next (pc' := 22) (ls' := [_, _, _, _, _, _, _]) rfl rfl ?_
  exact h
theorem w201_22 {d : Nat} {i1 : Int32} {i2 : Int32} {i3 : Int32} {j4 : Int64} {i6 : Int32} {g : qG} {I : qI} {J : qJ} {Q : qQ} (hs : qSh g)  (h : ((i3 < i6 → qC d 178 [.ref 105, .long j4] g I J (fun v _ _ _ => ∃ r1, v = some (.int r1) ∧ Q (some (.int r1)) g I J)) ∧ (¬ i3 < i6 → qC d 180 [.ref 105, .int i1] g I J (fun v _ _ _ => ∃ r2, v = some (.int r2) ∧ ((r2 ≤ i6 → qC d 178 [.ref 105, .long j4] g I J (fun v _ _ _ => ∃ r3, v = some (.int r3) ∧ Q (some (.int r3)) g I J)) ∧ (¬ r2 ≤ i6 → ((i6 ≤ (nI 1) → qC d 182 [.ref 105, .int i1, .int i6] g I J (fun v _ _ _ => ∃ r4, v = some (.int r4) ∧ qC d 182 [.ref 105, .int (nI 41), .int i3] g I J (fun v _ _ _ => ∃ r5, v = some (.int r5) ∧ qev (d + 1) 201 (22, [.ref 105, .int i1, .int i2, .int i3, .long (j4 + ((Int32.toInt64 r4) * (Int32.toInt64 r5))), qpad, .int (i6 + (nI 1))], [], g, I, J) Q))) ∧ (¬ i6 ≤ (nI 1) → qC d 192 [.ref 105, .int (nI 41), .int i2, .int (nI 42), .int (i3 + (nI 1))] g I J (fun v _ I1 _ => v = none ∧ qC d 184 [.ref 105, .int (nI 42), .int (nI 41)] g I1 J (fun v _ I2 _ => v = none ∧ qC d 182 [.ref 105, .int i1, .int i6] g I2 J (fun v _ _ _ => ∃ r6, v = some (.int r6) ∧ qC d 182 [.ref 105, .int (nI 41), .int i3] g I2 J (fun v _ _ _ => ∃ r7, v = some (.int r7) ∧ qev (d + 1) 201 (22, [.ref 105, .int i1, .int i2, .int i3, .long (j4 + ((Int32.toInt64 r6) * (Int32.toInt64 r7))), qpad, .int (i6 + (nI 1))], [], g, I2, J) Q)))))))))))) : qev (d + 1) 201 (22, [.ref 105, .int i1, .int i2, .int i3, .long j4, qpad, .int i6], [], g, I, J) Q := by
  refine e_next (pc' := 24) rfl rfl ?_
  refine e_next (pc' := 25) rfl rfl ?_
  refine e_icmp (i3 < i6) (pc' := 28) rfl rfl e_d (fun hc => ?_) (fun hc => ?_)
  · replace h := h.1 hc
    refine e_next (pc' := 93) rfl rfl ?_
    refine e_next (pc' := 95) rfl rfl ?_
    refine e_cpI (pc' := 98) rfl (e_sV (as := [_]) (fun _ => rfl) (Or.inl rfl) rfl (hs.o rfl) rfl rfl (Nat.le_of_ble_eq_true rfl) (Nat.le_of_ble_eq_true rfl) rfl) rfl rfl rfl ?_
    refine qev.mono h (fun v _ _ _ h => ?_)
    obtain ⟨r1, rfl, h⟩ := h
    refine ⟨r1, rfl, ?_⟩
    exact e_iret rfl h
  · replace h := h.2 hc
    refine e_next (pc' := 30) rfl rfl ?_
    refine e_next (pc' := 31) rfl rfl ?_
    refine e_next (pc' := 32) rfl rfl ?_
    refine e_cpI (pc' := 35) rfl (e_sV (as := [_]) (fun _ => rfl) (Or.inl rfl) rfl (hs.o rfl) rfl rfl (Nat.le_of_ble_eq_true rfl) (Nat.le_of_ble_eq_true rfl) rfl) rfl rfl rfl ?_
    refine qev.mono h (fun v _ _ _ h => ?_)
    obtain ⟨r2, rfl, h⟩ := h
    refine ⟨r2, rfl, ?_⟩
    refine e_icmp (r2 ≤ i6) (pc' := 38) rfl rfl e_d (fun hc => ?_) (fun hc => ?_)
    · replace h := h.1 hc
      refine e_next (pc' := 93) rfl rfl ?_
      refine e_next (pc' := 95) rfl rfl ?_
      refine e_cpI (pc' := 98) rfl (e_sV (as := [_]) (fun _ => rfl) (Or.inl rfl) rfl (hs.o rfl) rfl rfl (Nat.le_of_ble_eq_true rfl) (Nat.le_of_ble_eq_true rfl) rfl) rfl rfl rfl ?_
      refine qev.mono h (fun v _ _ _ h => ?_)
      obtain ⟨r3, rfl, h⟩ := h
      refine ⟨r3, rfl, ?_⟩
      exact e_iret rfl h
    · replace h := h.2 hc
      refine e_next (pc' := 40) rfl rfl ?_
      refine e_iconst (pc' := 41) rfl rfl kc_1 ?_
      refine e_icmp (i6 ≤ (nI 1)) (pc' := 44) rfl rfl e_d (fun hc => ?_) (fun hc => ?_)
      · replace h := h.1 hc
        refine e_next (pc' := 66) rfl rfl ?_
        refine e_next (pc' := 67) rfl rfl ?_
        refine e_next (pc' := 68) rfl rfl ?_
        refine e_next (pc' := 70) rfl rfl ?_
        refine e_cpI (pc' := 73) rfl (e_sV (as := [_, _]) (fun _ => rfl) (Or.inl rfl) rfl (hs.o rfl) rfl rfl (Nat.le_of_ble_eq_true rfl) (Nat.le_of_ble_eq_true rfl) rfl) rfl rfl rfl ?_
        refine qev.mono h (fun v _ _ _ h => ?_)
        obtain ⟨r4, rfl, h⟩ := h
        refine ⟨r4, rfl, ?_⟩
        refine e_next (pc' := 74) rfl rfl ?_
        refine e_next (pc' := 75) rfl rfl ?_
        refine e_bipush (pc' := 77) rfl rfl kb_41 ?_
        refine e_next (pc' := 78) rfl rfl ?_
        refine e_cpI (pc' := 81) rfl (e_sV (as := [_, _]) (fun _ => rfl) (Or.inl rfl) rfl (hs.o rfl) rfl rfl (Nat.le_of_ble_eq_true rfl) (Nat.le_of_ble_eq_true rfl) rfl) rfl rfl rfl ?_
        refine qev.mono h (fun v _ _ _ h => ?_)
        obtain ⟨r5, rfl, h⟩ := h
        refine ⟨r5, rfl, ?_⟩
        refine e_next (pc' := 82) rfl rfl ?_
        refine e_next (pc' := 83) rfl rfl ?_
        refine e_next (pc' := 84) rfl rfl ?_
        refine e_next (pc' := 86) (ls' := [_, _, _, _, _, _, _]) rfl rfl ?_
        refine e_iinc (pc' := 89) (ls' := [_, _, _, _, _, _, _]) (v := (nI 1)) rfl rfl kc_1 rfl rfl ?_
        refine e_next (pc' := 22) rfl rfl ?_
        exact h
      · replace h := h.2 hc
        refine e_next (pc' := 45) rfl rfl ?_
        refine e_bipush (pc' := 47) rfl rfl kb_41 ?_
        refine e_next (pc' := 48) rfl rfl ?_
        refine e_bipush (pc' := 50) rfl rfl kb_42 ?_
        refine e_next (pc' := 51) rfl rfl ?_
        refine e_iconst (pc' := 52) rfl rfl kc_1 ?_
        refine e_next (pc' := 53) rfl rfl ?_
        refine e_ciV (pc' := 56) rfl (e_sV (as := [_, _, _, _]) (fun _ => rfl) (Or.inl rfl) rfl (hs.o rfl) rfl rfl (Nat.le_of_ble_eq_true rfl) (Nat.le_of_ble_eq_true rfl) rfl) rfl rfl ?_
        refine qev.mono h (fun v _ I1 _ h => ?_)
        obtain ⟨rfl, h⟩ := h
        refine ⟨rfl, ?_⟩
        refine e_next (pc' := 57) rfl rfl ?_
        refine e_bipush (pc' := 59) rfl rfl kb_42 ?_
        refine e_bipush (pc' := 61) rfl rfl kb_41 ?_
        refine e_ciV (pc' := 64) rfl (e_sV (as := [_, _]) (fun _ => rfl) (Or.inl rfl) rfl (hs.o rfl) rfl rfl (Nat.le_of_ble_eq_true rfl) (Nat.le_of_ble_eq_true rfl) rfl) rfl rfl ?_
        refine qev.mono h (fun v _ I2 _ h => ?_)
        obtain ⟨rfl, h⟩ := h
        refine ⟨rfl, ?_⟩
        refine e_next (pc' := 66) rfl rfl ?_
        refine e_next (pc' := 67) rfl rfl ?_
        refine e_next (pc' := 68) rfl rfl ?_
        refine e_next (pc' := 70) rfl rfl ?_
        refine e_cpI (pc' := 73) rfl (e_sV (as := [_, _]) (fun _ => rfl) (Or.inl rfl) rfl (hs.o rfl) rfl rfl (Nat.le_of_ble_eq_true rfl) (Nat.le_of_ble_eq_true rfl) rfl) rfl rfl rfl ?_
        refine qev.mono h (fun v _ _ _ h => ?_)
        obtain ⟨r6, rfl, h⟩ := h
        refine ⟨r6, rfl, ?_⟩
        refine e_next (pc' := 74) rfl rfl ?_
        refine e_next (pc' := 75) rfl rfl ?_
        refine e_bipush (pc' := 77) rfl rfl kb_41 ?_
        refine e_next (pc' := 78) rfl rfl ?_
        refine e_cpI (pc' := 81) rfl (e_sV (as := [_, _]) (fun _ => rfl) (Or.inl rfl) rfl (hs.o rfl) rfl rfl (Nat.le_of_ble_eq_true rfl) (Nat.le_of_ble_eq_true rfl) rfl) rfl rfl rfl ?_
        refine qev.mono h (fun v _ _ _ h => ?_)
        obtain ⟨r7, rfl, h⟩ := h
        refine ⟨r7, rfl, ?_⟩
        refine e_next (pc' := 82) rfl rfl ?_
        refine e_next (pc' := 83) rfl rfl ?_
        refine e_next (pc' := 84) rfl rfl ?_
        refine e_next (pc' := 86) (ls' := [_, _, _, _, _, _, _]) rfl rfl ?_
        refine e_iinc (pc' := 89) (ls' := [_, _, _, _, _, _, _]) (v := (nI 1)) rfl rfl kc_1 rfl rfl ?_
        refine e_next (pc' := 22) rfl rfl ?_
        exact h
theorem w202 {d : Nat} {x1 : Int32} {g : qG} {I : qI} {J : qJ} {Q : qQ} (hs : qSh g)  (h : qC d 182 [.ref 105, .int x1, .int (nI 0)] g I J (fun v _ _ _ => ∃ r1, v = some (.int r1) ∧ ((r1 = 0 → qC d 180 [.ref 105, .int x1] g I J (fun v _ _ _ => ∃ r2, v = some (.int r2) ∧ ((r2 < (nI 2) → Q (some (.int (nI 2))) g I J) ∧ (¬ r2 < (nI 2) → qC d 182 [.ref 105, .int x1, .int (nI 1)] g I J (fun v _ _ _ => ∃ r3, v = some (.int r3) ∧ ((r3 = 0 → Q (some (.int (nI 2))) g I J) ∧ (¬ r3 = 0 → qC d 180 [.ref 105, .int x1] g I J (fun v _ _ _ => ∃ r4, v = some (.int r4) ∧ qC d 182 [.ref 105, .int x1, .int (nI 1)] g I J (fun v _ _ _ => ∃ r5, v = some (.int r5) ∧ qC d 179 [.ref 105, .int r5] g I J (fun v _ _ _ => ∃ r6, v = some (.int r6) ∧ qC d 193 [.ref 105, .int (nI 40), .int r4] g I J (fun v _ I1 _ => v = none ∧ qC d 183 [.ref 105, .int (nI 40), .int (nI 1), .int r6] g I1 J (fun v _ I2 _ => v = none ∧ qev (d + 1) 202 (64, [.ref 105, .int x1, .int r4, .int r6, .int (nI 2)], [], g, I2, J) Q)))))))))))) ∧ (¬ r1 = 0 → Q (some (.int (nI 2))) g I J)))) : qC (d + 1) 202 [.ref 105, .int x1] g I J Q := by
  show qev (d + 1) 202 (0, [.ref 105, .int x1, qpad, qpad, qpad], [], g, I, J) Q
  refine e_next (pc' := 1) rfl rfl ?_
  refine e_next (pc' := 2) rfl rfl ?_
  refine e_iconst (pc' := 3) rfl rfl kc_0 ?_
  refine e_cpI (pc' := 6) rfl (e_sV (as := [_, _]) (fun _ => rfl) (Or.inl rfl) rfl (hs.o rfl) rfl rfl (Nat.le_of_ble_eq_true rfl) (Nat.le_of_ble_eq_true rfl) rfl) rfl rfl rfl ?_
  refine qev.mono h (fun v _ _ _ h => ?_)
  obtain ⟨r1, rfl, h⟩ := h
  refine ⟨r1, rfl, ?_⟩
  refine e_if (¬ r1 = 0) (pc' := 9) rfl rfl e_d (fun hc => ?_) (fun hc => ?_)
  · replace h := h.2 hc
    refine e_iconst (pc' := 28) rfl rfl kc_2 ?_
    exact e_iret rfl h
  · replace h := h.1 (Decidable.not_not.mp hc)
    refine e_next (pc' := 10) rfl rfl ?_
    refine e_next (pc' := 11) rfl rfl ?_
    refine e_cpI (pc' := 14) rfl (e_sV (as := [_]) (fun _ => rfl) (Or.inl rfl) rfl (hs.o rfl) rfl rfl (Nat.le_of_ble_eq_true rfl) (Nat.le_of_ble_eq_true rfl) rfl) rfl rfl rfl ?_
    refine qev.mono h (fun v _ _ _ h => ?_)
    obtain ⟨r2, rfl, h⟩ := h
    refine ⟨r2, rfl, ?_⟩
    refine e_iconst (pc' := 15) rfl rfl kc_2 ?_
    refine e_icmp (r2 < (nI 2)) (pc' := 18) rfl rfl e_d (fun hc => ?_) (fun hc => ?_)
    · replace h := h.1 hc
      refine e_iconst (pc' := 28) rfl rfl kc_2 ?_
      exact e_iret rfl h
    · replace h := h.2 hc
      refine e_next (pc' := 19) rfl rfl ?_
      refine e_next (pc' := 20) rfl rfl ?_
      refine e_iconst (pc' := 21) rfl rfl kc_1 ?_
      refine e_cpI (pc' := 24) rfl (e_sV (as := [_, _]) (fun _ => rfl) (Or.inl rfl) rfl (hs.o rfl) rfl rfl (Nat.le_of_ble_eq_true rfl) (Nat.le_of_ble_eq_true rfl) rfl) rfl rfl rfl ?_
      refine qev.mono h (fun v _ _ _ h => ?_)
      obtain ⟨r3, rfl, h⟩ := h
      refine ⟨r3, rfl, ?_⟩
      refine e_if (¬ r3 = 0) (pc' := 27) rfl rfl e_d (fun hc => ?_) (fun hc => ?_)
      · replace h := h.2 hc
        refine e_next (pc' := 30) rfl rfl ?_
        refine e_next (pc' := 31) rfl rfl ?_
        refine e_cpI (pc' := 34) rfl (e_sV (as := [_]) (fun _ => rfl) (Or.inl rfl) rfl (hs.o rfl) rfl rfl (Nat.le_of_ble_eq_true rfl) (Nat.le_of_ble_eq_true rfl) rfl) rfl rfl rfl ?_
        refine qev.mono h (fun v _ _ _ h => ?_)
        obtain ⟨r4, rfl, h⟩ := h
        refine ⟨r4, rfl, ?_⟩
        refine e_next (pc' := 35) (ls' := [_, _, _, _, _]) rfl rfl ?_
        refine e_next (pc' := 36) rfl rfl ?_
        refine e_next (pc' := 37) rfl rfl ?_
        refine e_next (pc' := 38) rfl rfl ?_
        refine e_iconst (pc' := 39) rfl rfl kc_1 ?_
        refine e_cpI (pc' := 42) rfl (e_sV (as := [_, _]) (fun _ => rfl) (Or.inl rfl) rfl (hs.o rfl) rfl rfl (Nat.le_of_ble_eq_true rfl) (Nat.le_of_ble_eq_true rfl) rfl) rfl rfl rfl ?_
        refine qev.mono h (fun v _ _ _ h => ?_)
        obtain ⟨r5, rfl, h⟩ := h
        refine ⟨r5, rfl, ?_⟩
        refine e_cpI (pc' := 45) rfl (e_sV (as := [_]) (fun _ => rfl) (Or.inl rfl) rfl (hs.o rfl) rfl rfl (Nat.le_of_ble_eq_true rfl) (Nat.le_of_ble_eq_true rfl) rfl) rfl rfl rfl ?_
        refine qev.mono h (fun v _ _ _ h => ?_)
        obtain ⟨r6, rfl, h⟩ := h
        refine ⟨r6, rfl, ?_⟩
        refine e_next (pc' := 46) (ls' := [_, _, _, _, _]) rfl rfl ?_
        refine e_next (pc' := 47) rfl rfl ?_
        refine e_bipush (pc' := 49) rfl rfl kb_40 ?_
        refine e_next (pc' := 50) rfl rfl ?_
        refine e_ciV (pc' := 53) rfl (e_sV (as := [_, _]) (fun _ => rfl) (Or.inl rfl) rfl (hs.o rfl) rfl rfl (Nat.le_of_ble_eq_true rfl) (Nat.le_of_ble_eq_true rfl) rfl) rfl rfl ?_
        refine qev.mono h (fun v _ I1 _ h => ?_)
        obtain ⟨rfl, h⟩ := h
        refine ⟨rfl, ?_⟩
        refine e_next (pc' := 54) rfl rfl ?_
        refine e_bipush (pc' := 56) rfl rfl kb_40 ?_
        refine e_iconst (pc' := 57) rfl rfl kc_1 ?_
        refine e_next (pc' := 58) rfl rfl ?_
        refine e_ciV (pc' := 61) rfl (e_sV (as := [_, _, _]) (fun _ => rfl) (Or.inl rfl) rfl (hs.o rfl) rfl rfl (Nat.le_of_ble_eq_true rfl) (Nat.le_of_ble_eq_true rfl) rfl) rfl rfl ?_
        refine qev.mono h (fun v _ I2 _ h => ?_)
        obtain ⟨rfl, h⟩ := h
        refine ⟨rfl, ?_⟩
        refine e_iconst (pc' := 62) rfl rfl kc_2 ?_
        refine e_next (pc' := 64) (ls' := [_, _, _, _, _]) rfl rfl ?_
        exact h
      · replace h := h.1 (Decidable.not_not.mp hc)
        refine e_iconst (pc' := 28) rfl rfl kc_2 ?_
        exact e_iret rfl h
theorem w202_64 {d : Nat} {i1 : Int32} {i2 : Int32} {i3 : Int32} {i4 : Int32} {g : qG} {I : qI} {J : qJ} {Q : qQ} (hs : qSh g)  (h : ((i2 ≤ i4 → qC d 184 [.ref 105, .int (nI 40), .int i1] g I J (fun v _ I1 _ => v = none ∧ Q (some (.int (-1))) g I1 J)) ∧ (¬ i2 ≤ i4 → qC d 201 [.ref 105, .int i1, .int (nI 40), .int i4] g I J (fun v _ I2 _ => ∃ r1, v = some (.int r1) ∧ qC d 178 [.ref 105, .long ((-(Int32.toInt64 r1)) * (Int32.toInt64 i3))] g I2 J (fun v _ _ _ => ∃ r2, v = some (.int r2) ∧ qC d 183 [.ref 105, .int (nI 40), .int i4, .int r2] g I2 J (fun v _ I3 _ => v = none ∧ qev (d + 1) 202 (64, [.ref 105, .int i1, .int i2, .int i3, .int (i4 + (nI 1))], [], g, I3, J) Q)))))) : qev (d + 1) 202 (64, [.ref 105, .int i1, .int i2, .int i3, .int i4], [], g, I, J) Q := by
  refine e_next (pc' := 66) rfl rfl ?_
  refine e_next (pc' := 67) rfl rfl ?_
  refine e_icmp (i2 ≤ i4) (pc' := 70) rfl rfl e_d (fun hc => ?_) (fun hc => ?_)
  · replace h := h.1 hc
    refine e_next (pc' := 103) rfl rfl ?_
    refine e_bipush (pc' := 105) rfl rfl kb_40 ?_
    refine e_next (pc' := 106) rfl rfl ?_
    refine e_ciV (pc' := 109) rfl (e_sV (as := [_, _]) (fun _ => rfl) (Or.inl rfl) rfl (hs.o rfl) rfl rfl (Nat.le_of_ble_eq_true rfl) (Nat.le_of_ble_eq_true rfl) rfl) rfl rfl ?_
    refine qev.mono h (fun v _ I1 _ h => ?_)
    obtain ⟨rfl, h⟩ := h
    refine ⟨rfl, ?_⟩
    refine e_iconst (pc' := 110) rfl rfl kc_m1 ?_
    exact e_iret rfl h
  · replace h := h.2 hc
    refine e_next (pc' := 71) rfl rfl ?_
    refine e_bipush (pc' := 73) rfl rfl kb_40 ?_
    refine e_next (pc' := 75) rfl rfl ?_
    refine e_next (pc' := 76) rfl rfl ?_
    refine e_next (pc' := 77) rfl rfl ?_
    refine e_next (pc' := 78) rfl rfl ?_
    refine e_bipush (pc' := 80) rfl rfl kb_40 ?_
    refine e_next (pc' := 82) rfl rfl ?_
    refine e_ciI (pc' := 85) rfl (e_sV (as := [_, _, _]) (fun _ => rfl) (Or.inl rfl) rfl (hs.o rfl) rfl rfl (Nat.le_of_ble_eq_true rfl) (Nat.le_of_ble_eq_true rfl) rfl) rfl rfl ?_
    refine qev.mono h (fun v _ I2 _ h => ?_)
    obtain ⟨r1, rfl, h⟩ := h
    refine ⟨r1, rfl, ?_⟩
    refine e_next (pc' := 86) rfl rfl ?_
    refine e_next (pc' := 87) rfl rfl ?_
    refine e_next (pc' := 88) rfl rfl ?_
    refine e_next (pc' := 89) rfl rfl ?_
    refine e_next (pc' := 90) rfl rfl ?_
    refine e_cpI (pc' := 93) rfl (e_sV (as := [_]) (fun _ => rfl) (Or.inl rfl) rfl (hs.o rfl) rfl rfl (Nat.le_of_ble_eq_true rfl) (Nat.le_of_ble_eq_true rfl) rfl) rfl rfl rfl ?_
    refine qev.mono h (fun v _ _ _ h => ?_)
    obtain ⟨r2, rfl, h⟩ := h
    refine ⟨r2, rfl, ?_⟩
    refine e_ciV (pc' := 96) rfl (e_sV (as := [_, _, _]) (fun _ => rfl) (Or.inl rfl) rfl (hs.o rfl) rfl rfl (Nat.le_of_ble_eq_true rfl) (Nat.le_of_ble_eq_true rfl) rfl) rfl rfl ?_
    refine qev.mono h (fun v _ I3 _ h => ?_)
    obtain ⟨rfl, h⟩ := h
    refine ⟨rfl, ?_⟩
    refine e_iinc (pc' := 99) (ls' := [_, _, _, _, _]) (v := (nI 1)) rfl rfl kc_1 rfl rfl ?_
    refine e_next (pc' := 64) rfl rfl ?_
    exact h
theorem w203 {d : Nat} {x1 : Int32} {x2 : Int32} {g : qG} {I : qI} {J : qJ} {Q : qQ} (hs : qSh g)  (h : qC d 178 [.ref 105, .long (lN 1)] g I J (fun v _ _ _ => ∃ r1, v = some (.int r1) ∧ qev (d + 1) 203 (9, [.ref 105, .int x1, .int x2, .int r1, .int (nI 0)], [], g, I, J) Q)) : qC (d + 1) 203 [.ref 105, .int x1, .int x2] g I J Q := by
  show qev (d + 1) 203 (0, [.ref 105, .int x1, .int x2, qpad, qpad], [], g, I, J) Q
  refine e_next (pc' := 1) rfl rfl ?_
  refine e_lconst (pc' := 2) rfl rfl kl_1 ?_
  refine e_cpI (pc' := 5) rfl (e_sV (as := [_]) (fun _ => rfl) (Or.inl rfl) rfl (hs.o rfl) rfl rfl (Nat.le_of_ble_eq_true rfl) (Nat.le_of_ble_eq_true rfl) rfl) rfl rfl rfl ?_
  refine qev.mono h (fun v _ _ _ h => ?_)
  obtain ⟨r1, rfl, h⟩ := h
  refine ⟨r1, rfl, ?_⟩
  refine e_next (pc' := 6) (ls' := [_, _, _, _, _]) rfl rfl ?_
  refine e_iconst (pc' := 7) rfl rfl kc_0 ?_
  refine e_next (pc' := 9) (ls' := [_, _, _, _, _]) rfl rfl ?_
  exact h
theorem w203_9 {d : Nat} {i1 : Int32} {i2 : Int32} {i3 : Int32} {i4 : Int32} {g : qG} {I : qI} {J : qJ} {Q : qQ} (hs : qSh g)  (h : ((i2 ≤ i4 → Q (some (.int i3)) g I J) ∧ (¬ i2 ≤ i4 → ¬ (I 105 7) = 0 ∧ qev (d + 1) 203 (9, [.ref 105, .int i1, .int i2, .int (qrem (i3 * i1) (I 105 7)), .int (i4 + (nI 1))], [], g, I, J) Q))) : qev (d + 1) 203 (9, [.ref 105, .int i1, .int i2, .int i3, .int i4], [], g, I, J) Q := by
  refine e_next (pc' := 11) rfl rfl ?_
  refine e_next (pc' := 12) rfl rfl ?_
  refine e_icmp (i2 ≤ i4) (pc' := 15) rfl rfl e_d (fun hc => ?_) (fun hc => ?_)
  · replace h := h.1 hc
    refine e_next (pc' := 31) rfl rfl ?_
    exact e_iret rfl h
  · replace h := h.2 hc
    refine e_next (pc' := 16) rfl rfl ?_
    refine e_next (pc' := 17) rfl rfl ?_
    refine e_next (pc' := 18) rfl rfl ?_
    refine e_next (pc' := 19) rfl rfl ?_
    refine e_getI (pc' := 22) rfl (Or.inl rfl) rfl (hs.o rfl) ?_
    obtain ⟨hz1, h⟩ := h
    refine e_irem (pc' := 23) rfl rfl hz1 ?_
    refine e_next (pc' := 24) (ls' := [_, _, _, _, _]) rfl rfl ?_
    refine e_iinc (pc' := 27) (ls' := [_, _, _, _, _]) (v := (nI 1)) rfl rfl kc_1 rfl rfl ?_
    refine e_next (pc' := 9) rfl rfl ?_
    exact h
theorem w204 {d : Nat} {x1 : Int32} {x2 : Int32} {g : qG} {I : qI} {J : qJ} {Q : qQ} (hs : qSh g)  (h : qC d 182 [.ref 105, .int x1, .int (nI 0)] g I J (fun v _ _ _ => ∃ r1, v = some (.int r1) ∧ ((r1 = 0 → Q (some (.int (nI 2))) g I J) ∧ (¬ r1 = 0 → ¬ (I 105 7) = 0 ∧ (((qrem x2 (I 105 7)) = 0 → Q (some (.int (nI 3))) g I J) ∧ (¬ (qrem x2 (I 105 7)) = 0 → qev (d + 1) 204 (24, [.ref 105, .int x1, .int x2, .int (nI 1), qpad, qpad], [], g, I, J) Q)))))) : qC (d + 1) 204 [.ref 105, .int x1, .int x2] g I J Q := by
  show qev (d + 1) 204 (0, [.ref 105, .int x1, .int x2, qpad, qpad, qpad], [], g, I, J) Q
  refine e_next (pc' := 1) rfl rfl ?_
  refine e_next (pc' := 2) rfl rfl ?_
  refine e_iconst (pc' := 3) rfl rfl kc_0 ?_
  refine e_cpI (pc' := 6) rfl (e_sV (as := [_, _]) (fun _ => rfl) (Or.inl rfl) rfl (hs.o rfl) rfl rfl (Nat.le_of_ble_eq_true rfl) (Nat.le_of_ble_eq_true rfl) rfl) rfl rfl rfl ?_
  refine qev.mono h (fun v _ _ _ h => ?_)
  obtain ⟨r1, rfl, h⟩ := h
  refine ⟨r1, rfl, ?_⟩
  refine e_if (¬ r1 = 0) (pc' := 9) rfl rfl e_d (fun hc => ?_) (fun hc => ?_)
  · replace h := h.2 hc
    refine e_next (pc' := 12) rfl rfl ?_
    refine e_next (pc' := 13) rfl rfl ?_
    refine e_getI (pc' := 16) rfl (Or.inl rfl) rfl (hs.o rfl) ?_
    obtain ⟨hz1, h⟩ := h
    refine e_irem (pc' := 17) rfl rfl hz1 ?_
    refine e_if (¬ (qrem x2 (I 105 7)) = 0) (pc' := 20) rfl rfl e_d (fun hc => ?_) (fun hc => ?_)
    · replace h := h.2 hc
      refine e_iconst (pc' := 23) rfl rfl kc_1 ?_
      refine e_next (pc' := 24) (ls' := [_, _, _, _, _, _]) rfl rfl ?_
      exact h
    · replace h := h.1 (Decidable.not_not.mp hc)
      refine e_iconst (pc' := 21) rfl rfl kc_3 ?_
      exact e_iret rfl h
  · replace h := h.1 (Decidable.not_not.mp hc)
    refine e_iconst (pc' := 10) rfl rfl kc_2 ?_
    exact e_iret rfl h
theorem w204_24 {d : Nat} {i1 : Int32} {i2 : Int32} {i3 : Int32} {g : qG} {I : qI} {J : qJ} {Q : qQ} (hs : qSh g)  (h : (((I 105 7) ≤ i3 → qev (d + 1) 204 (53, [.ref 105, .int i1, .int i2, .int i3, qpad, qpad], [], g, I, J) Q) ∧ (¬ (I 105 7) ≤ i3 → qC d 203 [.ref 105, .int i3, .int i2] g I J (fun v _ _ _ => ∃ r1, v = some (.int r1) ∧ qC d 182 [.ref 105, .int i1, .int (nI 0)] g I J (fun v _ _ _ => ∃ r2, v = some (.int r2) ∧ ((r1 = r2 → qev (d + 1) 204 (53, [.ref 105, .int i1, .int i2, .int i3, qpad, qpad], [], g, I, J) Q) ∧ (¬ r1 = r2 → qev (d + 1) 204 (24, [.ref 105, .int i1, .int i2, .int (i3 + (nI 1)), qpad, qpad], [], g, I, J) Q))))))) : qev (d + 1) 204 (24, [.ref 105, .int i1, .int i2, .int i3, qpad, qpad], [], g, I, J) Q := by
  refine e_next (pc' := 25) rfl rfl ?_
  refine e_next (pc' := 26) rfl rfl ?_
  refine e_getI (pc' := 29) rfl (Or.inl rfl) rfl (hs.o rfl) ?_
  refine e_icmp ((I 105 7) ≤ i3) (pc' := 32) rfl rfl e_d (fun hc => ?_) (fun hc => ?_)
  · replace h := h.1 hc
    exact h
  · replace h := h.2 hc
    refine e_next (pc' := 33) rfl rfl ?_
    refine e_next (pc' := 34) rfl rfl ?_
    refine e_next (pc' := 35) rfl rfl ?_
    refine e_cpI (pc' := 38) rfl (e_sV (as := [_, _]) (fun _ => rfl) (Or.inl rfl) rfl (hs.o rfl) rfl rfl (Nat.le_of_ble_eq_true rfl) (Nat.le_of_ble_eq_true rfl) rfl) rfl rfl rfl ?_
    refine qev.mono h (fun v _ _ _ h => ?_)
    obtain ⟨r1, rfl, h⟩ := h
    refine ⟨r1, rfl, ?_⟩
    refine e_next (pc' := 39) rfl rfl ?_
    refine e_next (pc' := 40) rfl rfl ?_
    refine e_iconst (pc' := 41) rfl rfl kc_0 ?_
    refine e_cpI (pc' := 44) rfl (e_sV (as := [_, _]) (fun _ => rfl) (Or.inl rfl) rfl (hs.o rfl) rfl rfl (Nat.le_of_ble_eq_true rfl) (Nat.le_of_ble_eq_true rfl) rfl) rfl rfl rfl ?_
    refine qev.mono h (fun v _ _ _ h => ?_)
    obtain ⟨r2, rfl, h⟩ := h
    refine ⟨r2, rfl, ?_⟩
    refine e_icmp (r1 = r2) (pc' := 47) rfl rfl e_d (fun hc => ?_) (fun hc => ?_)
    · replace h := h.1 hc
      exact h
    · replace h := h.2 hc
      refine e_iinc (pc' := 50) (ls' := [_, _, _, _, _, _]) (v := (nI 1)) rfl rfl kc_1 rfl rfl ?_
      refine e_next (pc' := 24) rfl rfl ?_
      exact h
theorem w204_53 {d : Nat} {i1 : Int32} {i2 : Int32} {i3 : Int32} {g : qG} {I : qI} {J : qJ} {Q : qQ} (hs : qSh g)  (h : ((i3 = (I 105 7) → Q (some (.int (nI 4))) g I J) ∧ (¬ i3 = (I 105 7) → qC d 203 [.ref 105, .int i3, .int (i2 - (nI 1))] g I J (fun v _ _ _ => ∃ r1, v = some (.int r1) ∧ qC d 178 [.ref 105, .long ((Int32.toInt64 i2) * (Int32.toInt64 r1))] g I J (fun v _ _ _ => ∃ r2, v = some (.int r2) ∧ qC d 179 [.ref 105, .int r2] g I J (fun v _ _ _ => ∃ r3, v = some (.int r3) ∧ qC d 180 [.ref 105, .int i1] g I J (fun v _ _ _ => ∃ r4, v = some (.int r4) ∧ qC d 193 [.ref 105, .int (nI 40), .int r4] g I J (fun v _ I1 _ => v = none ∧ qC d 183 [.ref 105, .int (nI 40), .int (nI 0), .int i3] g I1 J (fun v _ I2 _ => v = none ∧ qev (d + 1) 204 (107, [.ref 105, .int i1, .int i2, .int i3, .int r3, .int (nI 1)], [], g, I2, J) Q))))))))) : qev (d + 1) 204 (53, [.ref 105, .int i1, .int i2, .int i3, qpad, qpad], [], g, I, J) Q := by
  refine e_next (pc' := 54) rfl rfl ?_
  refine e_next (pc' := 55) rfl rfl ?_
  refine e_getI (pc' := 58) rfl (Or.inl rfl) rfl (hs.o rfl) ?_
  refine e_icmp (¬ i3 = (I 105 7)) (pc' := 61) rfl rfl e_d (fun hc => ?_) (fun hc => ?_)
  · replace h := h.2 hc
    refine e_next (pc' := 64) rfl rfl ?_
    refine e_next (pc' := 65) rfl rfl ?_
    refine e_next (pc' := 66) rfl rfl ?_
    refine e_next (pc' := 67) rfl rfl ?_
    refine e_next (pc' := 68) rfl rfl ?_
    refine e_next (pc' := 69) rfl rfl ?_
    refine e_next (pc' := 70) rfl rfl ?_
    refine e_iconst (pc' := 71) rfl rfl kc_1 ?_
    refine e_next (pc' := 72) rfl rfl ?_
    refine e_cpI (pc' := 75) rfl (e_sV (as := [_, _]) (fun _ => rfl) (Or.inl rfl) rfl (hs.o rfl) rfl rfl (Nat.le_of_ble_eq_true rfl) (Nat.le_of_ble_eq_true rfl) rfl) rfl rfl rfl ?_
    refine qev.mono h (fun v _ _ _ h => ?_)
    obtain ⟨r1, rfl, h⟩ := h
    refine ⟨r1, rfl, ?_⟩
    refine e_next (pc' := 76) rfl rfl ?_
    refine e_next (pc' := 77) rfl rfl ?_
    refine e_cpI (pc' := 80) rfl (e_sV (as := [_]) (fun _ => rfl) (Or.inl rfl) rfl (hs.o rfl) rfl rfl (Nat.le_of_ble_eq_true rfl) (Nat.le_of_ble_eq_true rfl) rfl) rfl rfl rfl ?_
    refine qev.mono h (fun v _ _ _ h => ?_)
    obtain ⟨r2, rfl, h⟩ := h
    refine ⟨r2, rfl, ?_⟩
    refine e_cpI (pc' := 83) rfl (e_sV (as := [_]) (fun _ => rfl) (Or.inl rfl) rfl (hs.o rfl) rfl rfl (Nat.le_of_ble_eq_true rfl) (Nat.le_of_ble_eq_true rfl) rfl) rfl rfl rfl ?_
    refine qev.mono h (fun v _ _ _ h => ?_)
    obtain ⟨r3, rfl, h⟩ := h
    refine ⟨r3, rfl, ?_⟩
    refine e_next (pc' := 85) (ls' := [_, _, _, _, _, _]) rfl rfl ?_
    refine e_next (pc' := 86) rfl rfl ?_
    refine e_bipush (pc' := 88) rfl rfl kb_40 ?_
    refine e_next (pc' := 89) rfl rfl ?_
    refine e_next (pc' := 90) rfl rfl ?_
    refine e_cpI (pc' := 93) rfl (e_sV (as := [_]) (fun _ => rfl) (Or.inl rfl) rfl (hs.o rfl) rfl rfl (Nat.le_of_ble_eq_true rfl) (Nat.le_of_ble_eq_true rfl) rfl) rfl rfl rfl ?_
    refine qev.mono h (fun v _ _ _ h => ?_)
    obtain ⟨r4, rfl, h⟩ := h
    refine ⟨r4, rfl, ?_⟩
    refine e_ciV (pc' := 96) rfl (e_sV (as := [_, _]) (fun _ => rfl) (Or.inl rfl) rfl (hs.o rfl) rfl rfl (Nat.le_of_ble_eq_true rfl) (Nat.le_of_ble_eq_true rfl) rfl) rfl rfl ?_
    refine qev.mono h (fun v _ I1 _ h => ?_)
    obtain ⟨rfl, h⟩ := h
    refine ⟨rfl, ?_⟩
    refine e_next (pc' := 97) rfl rfl ?_
    refine e_bipush (pc' := 99) rfl rfl kb_40 ?_
    refine e_iconst (pc' := 100) rfl rfl kc_0 ?_
    refine e_next (pc' := 101) rfl rfl ?_
    refine e_ciV (pc' := 104) rfl (e_sV (as := [_, _, _]) (fun _ => rfl) (Or.inl rfl) rfl (hs.o rfl) rfl rfl (Nat.le_of_ble_eq_true rfl) (Nat.le_of_ble_eq_true rfl) rfl) rfl rfl ?_
    refine qev.mono h (fun v _ I2 _ h => ?_)
    obtain ⟨rfl, h⟩ := h
    refine ⟨rfl, ?_⟩
    refine e_iconst (pc' := 105) rfl rfl kc_1 ?_
    refine e_next (pc' := 107) (ls' := [_, _, _, _, _, _]) rfl rfl ?_
    exact h
  · replace h := h.1 (Decidable.not_not.mp hc)
    refine e_iconst (pc' := 62) rfl rfl kc_4 ?_
    exact e_iret rfl h
theorem w204_107 {d : Nat} {i1 : Int32} {i2 : Int32} {i3 : Int32} {i4 : Int32} {i5 : Int32} {g : qG} {I : qI} {J : qJ} {Q : qQ} (hs : qSh g)  (h : qC d 180 [.ref 105, .int i1] g I J (fun v _ _ _ => ∃ r1, v = some (.int r1) ∧ ((r1 ≤ i5 → qC d 184 [.ref 105, .int (nI 40), .int i1] g I J (fun v _ I1 _ => v = none ∧ Q (some (.int (-1))) g I1 J)) ∧ (¬ r1 ≤ i5 → qC d 194 [.ref 105, .int (nI 40), .int i2, .int (i5 + (nI 1)), .int (nI 41)] g I J (fun v _ I2 _ => v = none ∧ qC d 182 [.ref 105, .int i1, .int i5] g I2 J (fun v _ _ _ => ∃ r2, v = some (.int r2) ∧ qC d 182 [.ref 105, .int (nI 41), .int i5] g I2 J (fun v _ _ _ => ∃ r3, v = some (.int r3) ∧ qC d 178 [.ref 105, .long ((Int32.toInt64 (r2 - r3)) * (Int32.toInt64 i4))] g I2 J (fun v _ _ _ => ∃ r4, v = some (.int r4) ∧ qC d 183 [.ref 105, .int (nI 40), .int i5, .int r4] g I2 J (fun v _ I3 _ => v = none ∧ qev (d + 1) 204 (107, [.ref 105, .int i1, .int i2, .int i3, .int i4, .int (i5 + (nI 1))], [], g, I3, J) Q))))))))) : qev (d + 1) 204 (107, [.ref 105, .int i1, .int i2, .int i3, .int i4, .int i5], [], g, I, J) Q := by
  refine e_next (pc' := 109) rfl rfl ?_
  refine e_next (pc' := 110) rfl rfl ?_
  refine e_next (pc' := 111) rfl rfl ?_
  refine e_cpI (pc' := 114) rfl (e_sV (as := [_]) (fun _ => rfl) (Or.inl rfl) rfl (hs.o rfl) rfl rfl (Nat.le_of_ble_eq_true rfl) (Nat.le_of_ble_eq_true rfl) rfl) rfl rfl rfl ?_
  refine qev.mono h (fun v _ _ _ h => ?_)
  obtain ⟨r1, rfl, h⟩ := h
  refine ⟨r1, rfl, ?_⟩
  refine e_icmp (r1 ≤ i5) (pc' := 117) rfl rfl e_d (fun hc => ?_) (fun hc => ?_)
  · replace h := h.1 hc
    refine e_next (pc' := 170) rfl rfl ?_
    refine e_bipush (pc' := 172) rfl rfl kb_40 ?_
    refine e_next (pc' := 173) rfl rfl ?_
    refine e_ciV (pc' := 176) rfl (e_sV (as := [_, _]) (fun _ => rfl) (Or.inl rfl) rfl (hs.o rfl) rfl rfl (Nat.le_of_ble_eq_true rfl) (Nat.le_of_ble_eq_true rfl) rfl) rfl rfl ?_
    refine qev.mono h (fun v _ I1 _ h => ?_)
    obtain ⟨rfl, h⟩ := h
    refine ⟨rfl, ?_⟩
    refine e_iconst (pc' := 177) rfl rfl kc_m1 ?_
    exact e_iret rfl h
  · replace h := h.2 hc
    refine e_next (pc' := 118) rfl rfl ?_
    refine e_bipush (pc' := 120) rfl rfl kb_40 ?_
    refine e_next (pc' := 121) rfl rfl ?_
    refine e_next (pc' := 123) rfl rfl ?_
    refine e_iconst (pc' := 124) rfl rfl kc_1 ?_
    refine e_next (pc' := 125) rfl rfl ?_
    refine e_bipush (pc' := 127) rfl rfl kb_41 ?_
    refine e_ciV (pc' := 130) rfl (e_sV (as := [_, _, _, _]) (fun _ => rfl) (Or.inl rfl) rfl (hs.o rfl) rfl rfl (Nat.le_of_ble_eq_true rfl) (Nat.le_of_ble_eq_true rfl) rfl) rfl rfl ?_
    refine qev.mono h (fun v _ I2 _ h => ?_)
    obtain ⟨rfl, h⟩ := h
    refine ⟨rfl, ?_⟩
    refine e_next (pc' := 131) rfl rfl ?_
    refine e_bipush (pc' := 133) rfl rfl kb_40 ?_
    refine e_next (pc' := 135) rfl rfl ?_
    refine e_next (pc' := 136) rfl rfl ?_
    refine e_next (pc' := 137) rfl rfl ?_
    refine e_next (pc' := 138) rfl rfl ?_
    refine e_next (pc' := 140) rfl rfl ?_
    refine e_cpI (pc' := 143) rfl (e_sV (as := [_, _]) (fun _ => rfl) (Or.inl rfl) rfl (hs.o rfl) rfl rfl (Nat.le_of_ble_eq_true rfl) (Nat.le_of_ble_eq_true rfl) rfl) rfl rfl rfl ?_
    refine qev.mono h (fun v _ _ _ h => ?_)
    obtain ⟨r2, rfl, h⟩ := h
    refine ⟨r2, rfl, ?_⟩
    refine e_next (pc' := 144) rfl rfl ?_
    refine e_bipush (pc' := 146) rfl rfl kb_41 ?_
    refine e_next (pc' := 148) rfl rfl ?_
    refine e_cpI (pc' := 151) rfl (e_sV (as := [_, _]) (fun _ => rfl) (Or.inl rfl) rfl (hs.o rfl) rfl rfl (Nat.le_of_ble_eq_true rfl) (Nat.le_of_ble_eq_true rfl) rfl) rfl rfl rfl ?_
    refine qev.mono h (fun v _ _ _ h => ?_)
    obtain ⟨r3, rfl, h⟩ := h
    refine ⟨r3, rfl, ?_⟩
    refine e_next (pc' := 152) rfl rfl ?_
    refine e_next (pc' := 153) rfl rfl ?_
    refine e_next (pc' := 155) rfl rfl ?_
    refine e_next (pc' := 156) rfl rfl ?_
    refine e_next (pc' := 157) rfl rfl ?_
    refine e_cpI (pc' := 160) rfl (e_sV (as := [_]) (fun _ => rfl) (Or.inl rfl) rfl (hs.o rfl) rfl rfl (Nat.le_of_ble_eq_true rfl) (Nat.le_of_ble_eq_true rfl) rfl) rfl rfl rfl ?_
    refine qev.mono h (fun v _ _ _ h => ?_)
    obtain ⟨r4, rfl, h⟩ := h
    refine ⟨r4, rfl, ?_⟩
    refine e_ciV (pc' := 163) rfl (e_sV (as := [_, _, _]) (fun _ => rfl) (Or.inl rfl) rfl (hs.o rfl) rfl rfl (Nat.le_of_ble_eq_true rfl) (Nat.le_of_ble_eq_true rfl) rfl) rfl rfl ?_
    refine qev.mono h (fun v _ I3 _ h => ?_)
    obtain ⟨rfl, h⟩ := h
    refine ⟨rfl, ?_⟩
    refine e_iinc (pc' := 166) (ls' := [_, _, _, _, _, _]) (v := (nI 1)) rfl rfl kc_1 rfl rfl ?_
    refine e_next (pc' := 107) rfl rfl ?_
    exact h
theorem w205 {d : Nat} {x1 : Int32} {g : qG} {I : qI} {J : qJ} {Q : qQ} (hs : qSh g)  (h : qC d 182 [.ref 105, .int (x1 + (nI 1)), .int (nI 0)] g I J (fun v _ _ _ => ∃ r1, v = some (.int r1) ∧ ((r1 = 0 → qC d 180 [.ref 105, .int x1] g I J (fun v _ _ _ => ∃ r2, v = some (.int r2) ∧ qC d 185 [.ref 105, .int (x1 + (nI 1))] g I J (fun v _ _ _ => ∃ r3, v = some (.int r3) ∧ qC d 186 [.int (I 105 8), .int (r2 * r3)] g I J (fun v _ _ _ => ∃ r4, v = some (.int r4) ∧ qC d 178 [.ref 105, .long (lN 1)] g I J (fun v _ _ _ => ∃ r5, v = some (.int r5) ∧ qC d 187 [.ref 105, .int (nI 40), .int r5] g I J (fun v _ I1 _ => v = none ∧ qC d 193 [.ref 105, .int (nI 42), .int (I1 105 8)] g I1 J (fun v _ I2 _ => v = none ∧ qev (d + 1) 205 (58, [.ref 105, .int x1, .int (x1 + (nI 1)), .int r4, .int (nI 0), qpad], [], g, I2, J) Q))))))) ∧ (¬ r1 = 0 → Q (some (.int (nI 2))) g I J)))) : qC (d + 1) 205 [.ref 105, .int x1] g I J Q := by
  show qev (d + 1) 205 (0, [.ref 105, .int x1, qpad, qpad, qpad, qpad], [], g, I, J) Q
  refine e_next (pc' := 1) rfl rfl ?_
  refine e_iconst (pc' := 2) rfl rfl kc_1 ?_
  refine e_next (pc' := 3) rfl rfl ?_
  refine e_next (pc' := 4) (ls' := [_, _, _, _, _, _]) rfl rfl ?_
  refine e_next (pc' := 5) rfl rfl ?_
  refine e_next (pc' := 6) rfl rfl ?_
  refine e_iconst (pc' := 7) rfl rfl kc_0 ?_
  refine e_cpI (pc' := 10) rfl (e_sV (as := [_, _]) (fun _ => rfl) (Or.inl rfl) rfl (hs.o rfl) rfl rfl (Nat.le_of_ble_eq_true rfl) (Nat.le_of_ble_eq_true rfl) rfl) rfl rfl rfl ?_
  refine qev.mono h (fun v _ _ _ h => ?_)
  obtain ⟨r1, rfl, h⟩ := h
  refine ⟨r1, rfl, ?_⟩
  refine e_if (r1 = 0) (pc' := 13) rfl rfl e_d (fun hc => ?_) (fun hc => ?_)
  · replace h := h.1 hc
    refine e_next (pc' := 16) rfl rfl ?_
    refine e_getI (pc' := 19) rfl (Or.inl rfl) rfl (hs.o rfl) ?_
    refine e_next (pc' := 20) rfl rfl ?_
    refine e_next (pc' := 21) rfl rfl ?_
    refine e_cpI (pc' := 24) rfl (e_sV (as := [_]) (fun _ => rfl) (Or.inl rfl) rfl (hs.o rfl) rfl rfl (Nat.le_of_ble_eq_true rfl) (Nat.le_of_ble_eq_true rfl) rfl) rfl rfl rfl ?_
    refine qev.mono h (fun v _ _ _ h => ?_)
    obtain ⟨r2, rfl, h⟩ := h
    refine ⟨r2, rfl, ?_⟩
    refine e_next (pc' := 25) rfl rfl ?_
    refine e_next (pc' := 26) rfl rfl ?_
    refine e_cpI (pc' := 29) rfl (e_sV (as := [_]) (fun _ => rfl) (Or.inl rfl) rfl (hs.o rfl) rfl rfl (Nat.le_of_ble_eq_true rfl) (Nat.le_of_ble_eq_true rfl) rfl) rfl rfl rfl ?_
    refine qev.mono h (fun v _ _ _ h => ?_)
    obtain ⟨r3, rfl, h⟩ := h
    refine ⟨r3, rfl, ?_⟩
    refine e_next (pc' := 30) rfl rfl ?_
    refine e_cpI (pc' := 33) rfl (e_sS (as := [_, _]) (fun _ => rfl) rfl (Nat.le_of_ble_eq_true rfl) rfl rfl (Nat.le_of_ble_eq_true rfl) (Nat.le_of_ble_eq_true rfl) rfl) rfl rfl rfl ?_
    refine qev.mono h (fun v _ _ _ h => ?_)
    obtain ⟨r4, rfl, h⟩ := h
    refine ⟨r4, rfl, ?_⟩
    refine e_next (pc' := 34) (ls' := [_, _, _, _, _, _]) rfl rfl ?_
    refine e_next (pc' := 35) rfl rfl ?_
    refine e_bipush (pc' := 37) rfl rfl kb_40 ?_
    refine e_next (pc' := 38) rfl rfl ?_
    refine e_lconst (pc' := 39) rfl rfl kl_1 ?_
    refine e_cpI (pc' := 42) rfl (e_sV (as := [_]) (fun _ => rfl) (Or.inl rfl) rfl (hs.o rfl) rfl rfl (Nat.le_of_ble_eq_true rfl) (Nat.le_of_ble_eq_true rfl) rfl) rfl rfl rfl ?_
    refine qev.mono h (fun v _ _ _ h => ?_)
    obtain ⟨r5, rfl, h⟩ := h
    refine ⟨r5, rfl, ?_⟩
    refine e_ciV (pc' := 45) rfl (e_sV (as := [_, _]) (fun _ => rfl) (Or.inl rfl) rfl (hs.o rfl) rfl rfl (Nat.le_of_ble_eq_true rfl) (Nat.le_of_ble_eq_true rfl) rfl) rfl rfl ?_
    refine qev.mono h (fun v _ I1 _ h => ?_)
    obtain ⟨rfl, h⟩ := h
    refine ⟨rfl, ?_⟩
    refine e_next (pc' := 46) rfl rfl ?_
    refine e_bipush (pc' := 48) rfl rfl kb_42 ?_
    refine e_next (pc' := 49) rfl rfl ?_
    refine e_getI (pc' := 52) rfl (Or.inl rfl) rfl (hs.o rfl) ?_
    refine e_ciV (pc' := 55) rfl (e_sV (as := [_, _]) (fun _ => rfl) (Or.inl rfl) rfl (hs.o rfl) rfl rfl (Nat.le_of_ble_eq_true rfl) (Nat.le_of_ble_eq_true rfl) rfl) rfl rfl ?_
    refine qev.mono h (fun v _ I2 _ h => ?_)
    obtain ⟨rfl, h⟩ := h
    refine ⟨rfl, ?_⟩
    refine e_iconst (pc' := 56) rfl rfl kc_0 ?_
    refine e_next (pc' := 58) (ls' := [_, _, _, _, _, _]) rfl rfl ?_
    exact h
  · replace h := h.2 hc
    refine e_iconst (pc' := 14) rfl rfl kc_2 ?_
    exact e_iret rfl h
theorem w205_58 {d : Nat} {i1 : Int32} {i2 : Int32} {i3 : Int32} {i4 : Int32} {w5 : Value} {g : qG} {I : qI} {J : qJ} {Q : qQ} (hs : qSh g)  (h : qC d 180 [.ref 105, .int i1] g I J (fun v _ _ _ => ∃ r1, v = some (.int r1) ∧ ((r1 ≤ i4 → qC d 181 [.ref 105, .int (nI 42), .int i3] g I J (fun v _ I1 _ => v = none ∧ qC d 184 [.ref 105, .int (nI 42), .int i1] g I1 J (fun v _ I2 _ => v = none ∧ Q (some (.int (-1))) g I2 J))) ∧ (¬ r1 ≤ i4 → ((i4 ≤ 0 → qC d 182 [.ref 105, .int i1, .int i4] g I J (fun v _ _ _ => ∃ r2, v = some (.int r2) ∧ ((r2 = 0 → qev (d + 1) 205 (58, [.ref 105, .int i1, .int i2, .int i3, .int (i4 + (nI 1)), w5], [], g, I, J) Q) ∧ (¬ r2 = 0 → qC d 180 [.ref 105, .int (nI 40)] g I J (fun v _ _ _ => ∃ r3, v = some (.int r3) ∧ qC d 186 [.int i3, .int r3] g I J (fun v _ _ _ => ∃ r4, v = some (.int r4) ∧ qev (d + 1) 205 (117, [.ref 105, .int i1, .int i2, .int r4, .int i4, .int (nI 0)], [], g, I, J) Q)))))) ∧ (¬ i4 ≤ 0 → qC d 189 [.ref 105, .int (nI 40), .int i2, .int (nI 41)] g I J (fun v _ I3 _ => v = none ∧ qC d 184 [.ref 105, .int (nI 41), .int (nI 40)] g I3 J (fun v _ I4 _ => v = none ∧ qC d 182 [.ref 105, .int i1, .int i4] g I4 J (fun v _ _ _ => ∃ r5, v = some (.int r5) ∧ ((r5 = 0 → qev (d + 1) 205 (58, [.ref 105, .int i1, .int i2, .int i3, .int (i4 + (nI 1)), w5], [], g, I4, J) Q) ∧ (¬ r5 = 0 → qC d 180 [.ref 105, .int (nI 40)] g I4 J (fun v _ _ _ => ∃ r6, v = some (.int r6) ∧ qC d 186 [.int i3, .int r6] g I4 J (fun v _ _ _ => ∃ r7, v = some (.int r7) ∧ qev (d + 1) 205 (117, [.ref 105, .int i1, .int i2, .int r7, .int i4, .int (nI 0)], [], g, I4, J) Q))))))))))))) : qev (d + 1) 205 (58, [.ref 105, .int i1, .int i2, .int i3, .int i4, w5], [], g, I, J) Q := by
  refine e_next (pc' := 60) rfl rfl ?_
  refine e_next (pc' := 61) rfl rfl ?_
  refine e_next (pc' := 62) rfl rfl ?_
  refine e_cpI (pc' := 65) rfl (e_sV (as := [_]) (fun _ => rfl) (Or.inl rfl) rfl (hs.o rfl) rfl rfl (Nat.le_of_ble_eq_true rfl) (Nat.le_of_ble_eq_true rfl) rfl) rfl rfl rfl ?_
  refine qev.mono h (fun v _ _ _ h => ?_)
  obtain ⟨r1, rfl, h⟩ := h
  refine ⟨r1, rfl, ?_⟩
  refine e_icmp (r1 ≤ i4) (pc' := 68) rfl rfl e_d (fun hc => ?_) (fun hc => ?_)
  · replace h := h.1 hc
    refine e_next (pc' := 179) rfl rfl ?_
    refine e_bipush (pc' := 181) rfl rfl kb_42 ?_
    refine e_next (pc' := 182) rfl rfl ?_
    refine e_ciV (pc' := 185) rfl (e_sV (as := [_, _]) (fun _ => rfl) (Or.inl rfl) rfl (hs.o rfl) rfl rfl (Nat.le_of_ble_eq_true rfl) (Nat.le_of_ble_eq_true rfl) rfl) rfl rfl ?_
    refine qev.mono h (fun v _ I1 _ h => ?_)
    obtain ⟨rfl, h⟩ := h
    refine ⟨rfl, ?_⟩
    refine e_next (pc' := 186) rfl rfl ?_
    refine e_bipush (pc' := 188) rfl rfl kb_42 ?_
    refine e_next (pc' := 189) rfl rfl ?_
    refine e_ciV (pc' := 192) rfl (e_sV (as := [_, _]) (fun _ => rfl) (Or.inl rfl) rfl (hs.o rfl) rfl rfl (Nat.le_of_ble_eq_true rfl) (Nat.le_of_ble_eq_true rfl) rfl) rfl rfl ?_
    refine qev.mono h (fun v _ I2 _ h => ?_)
    obtain ⟨rfl, h⟩ := h
    refine ⟨rfl, ?_⟩
    refine e_iconst (pc' := 193) rfl rfl kc_m1 ?_
    exact e_iret rfl h
  · replace h := h.2 hc
    refine e_next (pc' := 70) rfl rfl ?_
    refine e_if (i4 ≤ 0) (pc' := 73) rfl rfl e_d (fun hc => ?_) (fun hc => ?_)
    · replace h := h.1 hc
      refine e_next (pc' := 91) rfl rfl ?_
      refine e_next (pc' := 92) rfl rfl ?_
      refine e_next (pc' := 94) rfl rfl ?_
      refine e_cpI (pc' := 97) rfl (e_sV (as := [_, _]) (fun _ => rfl) (Or.inl rfl) rfl (hs.o rfl) rfl rfl (Nat.le_of_ble_eq_true rfl) (Nat.le_of_ble_eq_true rfl) rfl) rfl rfl rfl ?_
      refine qev.mono h (fun v _ _ _ h => ?_)
      obtain ⟨r2, rfl, h⟩ := h
      refine ⟨r2, rfl, ?_⟩
      refine e_if (¬ r2 = 0) (pc' := 100) rfl rfl e_d (fun hc => ?_) (fun hc => ?_)
      · replace h := h.2 hc
        refine e_next (pc' := 104) rfl rfl ?_
        refine e_next (pc' := 105) rfl rfl ?_
        refine e_bipush (pc' := 107) rfl rfl kb_40 ?_
        refine e_cpI (pc' := 110) rfl (e_sV (as := [_]) (fun _ => rfl) (Or.inl rfl) rfl (hs.o rfl) rfl rfl (Nat.le_of_ble_eq_true rfl) (Nat.le_of_ble_eq_true rfl) rfl) rfl rfl rfl ?_
        refine qev.mono h (fun v _ _ _ h => ?_)
        obtain ⟨r3, rfl, h⟩ := h
        refine ⟨r3, rfl, ?_⟩
        refine e_cpI (pc' := 113) rfl (e_sS (as := [_, _]) (fun _ => rfl) rfl (Nat.le_of_ble_eq_true rfl) rfl rfl (Nat.le_of_ble_eq_true rfl) (Nat.le_of_ble_eq_true rfl) rfl) rfl rfl rfl ?_
        refine qev.mono h (fun v _ _ _ h => ?_)
        obtain ⟨r4, rfl, h⟩ := h
        refine ⟨r4, rfl, ?_⟩
        refine e_next (pc' := 114) (ls' := [_, _, _, _, _, _]) rfl rfl ?_
        refine e_iconst (pc' := 115) rfl rfl kc_0 ?_
        refine e_next (pc' := 117) (ls' := [_, _, _, _, _, _]) rfl rfl ?_
        exact h
      · replace h := h.1 (Decidable.not_not.mp hc)
        refine e_next (pc' := 172) rfl rfl ?_
        refine e_iinc (pc' := 175) (ls' := [_, _, _, _, _, _]) (v := (nI 1)) rfl rfl kc_1 rfl rfl ?_
        refine e_next (pc' := 58) rfl rfl ?_
        exact h
    · replace h := h.2 hc
      refine e_next (pc' := 74) rfl rfl ?_
      refine e_bipush (pc' := 76) rfl rfl kb_40 ?_
      refine e_next (pc' := 77) rfl rfl ?_
      refine e_bipush (pc' := 79) rfl rfl kb_41 ?_
      refine e_ciV (pc' := 82) rfl (e_sV (as := [_, _, _]) (fun _ => rfl) (Or.inl rfl) rfl (hs.o rfl) rfl rfl (Nat.le_of_ble_eq_true rfl) (Nat.le_of_ble_eq_true rfl) rfl) rfl rfl ?_
      refine qev.mono h (fun v _ I3 _ h => ?_)
      obtain ⟨rfl, h⟩ := h
      refine ⟨rfl, ?_⟩
      refine e_next (pc' := 83) rfl rfl ?_
      refine e_bipush (pc' := 85) rfl rfl kb_41 ?_
      refine e_bipush (pc' := 87) rfl rfl kb_40 ?_
      refine e_ciV (pc' := 90) rfl (e_sV (as := [_, _]) (fun _ => rfl) (Or.inl rfl) rfl (hs.o rfl) rfl rfl (Nat.le_of_ble_eq_true rfl) (Nat.le_of_ble_eq_true rfl) rfl) rfl rfl ?_
      refine qev.mono h (fun v _ I4 _ h => ?_)
      obtain ⟨rfl, h⟩ := h
      refine ⟨rfl, ?_⟩
      refine e_next (pc' := 91) rfl rfl ?_
      refine e_next (pc' := 92) rfl rfl ?_
      refine e_next (pc' := 94) rfl rfl ?_
      refine e_cpI (pc' := 97) rfl (e_sV (as := [_, _]) (fun _ => rfl) (Or.inl rfl) rfl (hs.o rfl) rfl rfl (Nat.le_of_ble_eq_true rfl) (Nat.le_of_ble_eq_true rfl) rfl) rfl rfl rfl ?_
      refine qev.mono h (fun v _ _ _ h => ?_)
      obtain ⟨r5, rfl, h⟩ := h
      refine ⟨r5, rfl, ?_⟩
      refine e_if (¬ r5 = 0) (pc' := 100) rfl rfl e_d (fun hc => ?_) (fun hc => ?_)
      · replace h := h.2 hc
        refine e_next (pc' := 104) rfl rfl ?_
        refine e_next (pc' := 105) rfl rfl ?_
        refine e_bipush (pc' := 107) rfl rfl kb_40 ?_
        refine e_cpI (pc' := 110) rfl (e_sV (as := [_]) (fun _ => rfl) (Or.inl rfl) rfl (hs.o rfl) rfl rfl (Nat.le_of_ble_eq_true rfl) (Nat.le_of_ble_eq_true rfl) rfl) rfl rfl rfl ?_
        refine qev.mono h (fun v _ _ _ h => ?_)
        obtain ⟨r6, rfl, h⟩ := h
        refine ⟨r6, rfl, ?_⟩
        refine e_cpI (pc' := 113) rfl (e_sS (as := [_, _]) (fun _ => rfl) rfl (Nat.le_of_ble_eq_true rfl) rfl rfl (Nat.le_of_ble_eq_true rfl) (Nat.le_of_ble_eq_true rfl) rfl) rfl rfl rfl ?_
        refine qev.mono h (fun v _ _ _ h => ?_)
        obtain ⟨r7, rfl, h⟩ := h
        refine ⟨r7, rfl, ?_⟩
        refine e_next (pc' := 114) (ls' := [_, _, _, _, _, _]) rfl rfl ?_
        refine e_iconst (pc' := 115) rfl rfl kc_0 ?_
        refine e_next (pc' := 117) (ls' := [_, _, _, _, _, _]) rfl rfl ?_
        exact h
      · replace h := h.1 (Decidable.not_not.mp hc)
        refine e_next (pc' := 172) rfl rfl ?_
        refine e_iinc (pc' := 175) (ls' := [_, _, _, _, _, _]) (v := (nI 1)) rfl rfl kc_1 rfl rfl ?_
        refine e_next (pc' := 58) rfl rfl ?_
        exact h
theorem w205_117 {d : Nat} {i1 : Int32} {i2 : Int32} {i3 : Int32} {i4 : Int32} {i5 : Int32} {g : qG} {I : qI} {J : qJ} {Q : qQ} (hs : qSh g)  (h : (((I 105 8) ≤ i5 → qev (d + 1) 205 (58, [.ref 105, .int i1, .int i2, .int i3, .int (i4 + (nI 1)), .int i5], [], g, I, J) Q) ∧ (¬ (I 105 8) ≤ i5 → qC d 182 [.ref 105, .int (nI 42), .int i5] g I J (fun v _ _ _ => ∃ r1, v = some (.int r1) ∧ qC d 182 [.ref 105, .int i1, .int i4] g I J (fun v _ _ _ => ∃ r2, v = some (.int r2) ∧ qC d 182 [.ref 105, .int (nI 40), .int i5] g I J (fun v _ _ _ => ∃ r3, v = some (.int r3) ∧ qC d 178 [.ref 105, .long ((Int32.toInt64 r1) + ((Int32.toInt64 r2) * (Int32.toInt64 r3)))] g I J (fun v _ _ _ => ∃ r4, v = some (.int r4) ∧ qC d 183 [.ref 105, .int (nI 42), .int i5, .int r4] g I J (fun v _ I1 _ => v = none ∧ qev (d + 1) 205 (117, [.ref 105, .int i1, .int i2, .int i3, .int i4, .int (i5 + (nI 1))], [], g, I1, J) Q)))))))) : qev (d + 1) 205 (117, [.ref 105, .int i1, .int i2, .int i3, .int i4, .int i5], [], g, I, J) Q := by
  refine e_next (pc' := 119) rfl rfl ?_
  refine e_next (pc' := 120) rfl rfl ?_
  refine e_getI (pc' := 123) rfl (Or.inl rfl) rfl (hs.o rfl) ?_
  refine e_icmp ((I 105 8) ≤ i5) (pc' := 126) rfl rfl e_d (fun hc => ?_) (fun hc => ?_)
  · replace h := h.1 hc
    refine e_iinc (pc' := 175) (ls' := [_, _, _, _, _, _]) (v := (nI 1)) rfl rfl kc_1 rfl rfl ?_
    refine e_next (pc' := 58) rfl rfl ?_
    exact h
  · replace h := h.2 hc
    refine e_next (pc' := 127) rfl rfl ?_
    refine e_bipush (pc' := 129) rfl rfl kb_42 ?_
    refine e_next (pc' := 131) rfl rfl ?_
    refine e_next (pc' := 132) rfl rfl ?_
    refine e_next (pc' := 133) rfl rfl ?_
    refine e_bipush (pc' := 135) rfl rfl kb_42 ?_
    refine e_next (pc' := 137) rfl rfl ?_
    refine e_cpI (pc' := 140) rfl (e_sV (as := [_, _]) (fun _ => rfl) (Or.inl rfl) rfl (hs.o rfl) rfl rfl (Nat.le_of_ble_eq_true rfl) (Nat.le_of_ble_eq_true rfl) rfl) rfl rfl rfl ?_
    refine qev.mono h (fun v _ _ _ h => ?_)
    obtain ⟨r1, rfl, h⟩ := h
    refine ⟨r1, rfl, ?_⟩
    refine e_next (pc' := 141) rfl rfl ?_
    refine e_next (pc' := 142) rfl rfl ?_
    refine e_next (pc' := 143) rfl rfl ?_
    refine e_next (pc' := 145) rfl rfl ?_
    refine e_cpI (pc' := 148) rfl (e_sV (as := [_, _]) (fun _ => rfl) (Or.inl rfl) rfl (hs.o rfl) rfl rfl (Nat.le_of_ble_eq_true rfl) (Nat.le_of_ble_eq_true rfl) rfl) rfl rfl rfl ?_
    refine qev.mono h (fun v _ _ _ h => ?_)
    obtain ⟨r2, rfl, h⟩ := h
    refine ⟨r2, rfl, ?_⟩
    refine e_next (pc' := 149) rfl rfl ?_
    refine e_next (pc' := 150) rfl rfl ?_
    refine e_bipush (pc' := 152) rfl rfl kb_40 ?_
    refine e_next (pc' := 154) rfl rfl ?_
    refine e_cpI (pc' := 157) rfl (e_sV (as := [_, _]) (fun _ => rfl) (Or.inl rfl) rfl (hs.o rfl) rfl rfl (Nat.le_of_ble_eq_true rfl) (Nat.le_of_ble_eq_true rfl) rfl) rfl rfl rfl ?_
    refine qev.mono h (fun v _ _ _ h => ?_)
    obtain ⟨r3, rfl, h⟩ := h
    refine ⟨r3, rfl, ?_⟩
    refine e_next (pc' := 158) rfl rfl ?_
    refine e_next (pc' := 159) rfl rfl ?_
    refine e_next (pc' := 160) rfl rfl ?_
    refine e_cpI (pc' := 163) rfl (e_sV (as := [_]) (fun _ => rfl) (Or.inl rfl) rfl (hs.o rfl) rfl rfl (Nat.le_of_ble_eq_true rfl) (Nat.le_of_ble_eq_true rfl) rfl) rfl rfl rfl ?_
    refine qev.mono h (fun v _ _ _ h => ?_)
    obtain ⟨r4, rfl, h⟩ := h
    refine ⟨r4, rfl, ?_⟩
    refine e_ciV (pc' := 166) rfl (e_sV (as := [_, _, _]) (fun _ => rfl) (Or.inl rfl) rfl (hs.o rfl) rfl rfl (Nat.le_of_ble_eq_true rfl) (Nat.le_of_ble_eq_true rfl) rfl) rfl rfl ?_
    refine qev.mono h (fun v _ I1 _ h => ?_)
    obtain ⟨rfl, h⟩ := h
    refine ⟨rfl, ?_⟩
    refine e_iinc (pc' := 169) (ls' := [_, _, _, _, _, _]) (v := (nI 1)) rfl rfl kc_1 rfl rfl ?_
    refine e_next (pc' := 117) rfl rfl ?_
    exact h
theorem w206 {d : Nat} {x1 : Int32} {x2 : Int32} {g : qG} {I : qI} {J : qJ} {Q : qQ} (hs : qSh g)  (h : qC d 180 [.ref 105, .int x1] g I J (fun v _ _ _ => ∃ r1, v = some (.int r1) ∧ qC d 180 [.ref 105, .int (x1 + (nI 1))] g I J (fun v _ _ _ => ∃ r2, v = some (.int r2) ∧ qC d 186 [.int r1, .int r2] g I J (fun v _ _ _ => ∃ r3, v = some (.int r3) ∧ qev (d + 1) 206 (19, [.ref 105, .int x1, .int x2, .int r3, .int (nI 0), qpad, qpad], [], g, I, J) Q)))) : qC (d + 1) 206 [.ref 105, .int x1, .int x2] g I J Q := by
  show qev (d + 1) 206 (0, [.ref 105, .int x1, .int x2, qpad, qpad, qpad, qpad], [], g, I, J) Q
  refine e_next (pc' := 1) rfl rfl ?_
  refine e_next (pc' := 2) rfl rfl ?_
  refine e_cpI (pc' := 5) rfl (e_sV (as := [_]) (fun _ => rfl) (Or.inl rfl) rfl (hs.o rfl) rfl rfl (Nat.le_of_ble_eq_true rfl) (Nat.le_of_ble_eq_true rfl) rfl) rfl rfl rfl ?_
  refine qev.mono h (fun v _ _ _ h => ?_)
  obtain ⟨r1, rfl, h⟩ := h
  refine ⟨r1, rfl, ?_⟩
  refine e_next (pc' := 6) rfl rfl ?_
  refine e_next (pc' := 7) rfl rfl ?_
  refine e_iconst (pc' := 8) rfl rfl kc_1 ?_
  refine e_next (pc' := 9) rfl rfl ?_
  refine e_cpI (pc' := 12) rfl (e_sV (as := [_]) (fun _ => rfl) (Or.inl rfl) rfl (hs.o rfl) rfl rfl (Nat.le_of_ble_eq_true rfl) (Nat.le_of_ble_eq_true rfl) rfl) rfl rfl rfl ?_
  refine qev.mono h (fun v _ _ _ h => ?_)
  obtain ⟨r2, rfl, h⟩ := h
  refine ⟨r2, rfl, ?_⟩
  refine e_cpI (pc' := 15) rfl (e_sS (as := [_, _]) (fun _ => rfl) rfl (Nat.le_of_ble_eq_true rfl) rfl rfl (Nat.le_of_ble_eq_true rfl) (Nat.le_of_ble_eq_true rfl) rfl) rfl rfl rfl ?_
  refine qev.mono h (fun v _ _ _ h => ?_)
  obtain ⟨r3, rfl, h⟩ := h
  refine ⟨r3, rfl, ?_⟩
  refine e_next (pc' := 16) (ls' := [_, _, _, _, _, _, _]) rfl rfl ?_
  refine e_iconst (pc' := 17) rfl rfl kc_0 ?_
  refine e_next (pc' := 19) (ls' := [_, _, _, _, _, _, _]) rfl rfl ?_
  exact h
theorem w206_19 {d : Nat} {i1 : Int32} {i2 : Int32} {i3 : Int32} {i4 : Int32} {w5 : Value} {w6 : Value} {g : qG} {I : qI} {J : qJ} {Q : qQ} (hs : qSh g)  (h : ((i3 ≤ i4 → qC d 181 [.ref 105, .int i1, .int i3] g I J (fun v _ I1 _ => v = none ∧ Q (some (.int (-1))) g I1 J)) ∧ (¬ i3 ≤ i4 → qC d 182 [.ref 105, .int i1, .int i4] g I J (fun v _ _ _ => ∃ r1, v = some (.int r1) ∧ qC d 182 [.ref 105, .int (i1 + (nI 1)), .int i4] g I J (fun v _ _ _ => ∃ r2, v = some (.int r2) ∧ ((i2 = (nI 3) → qC d 178 [.ref 105, .long (Int32.toInt64 (r1 + r2))] g I J (fun v _ _ _ => ∃ r5, v = some (.int r5) ∧ qC d 183 [.ref 105, .int i1, .int i4, .int r5] g I J (fun v _ I4 _ => v = none ∧ qev (d + 1) 206 (19, [.ref 105, .int i1, .int i2, .int i3, .int (i4 + (nI 1)), .int r1, .int r2], [], g, I4, J) Q))) ∧ (¬ i2 = (nI 3) → ((i2 = (nI 4) → qC d 178 [.ref 105, .long (Int32.toInt64 (r1 - r2))] g I J (fun v _ _ _ => ∃ r4, v = some (.int r4) ∧ qC d 183 [.ref 105, .int i1, .int i4, .int r4] g I J (fun v _ I3 _ => v = none ∧ qev (d + 1) 206 (19, [.ref 105, .int i1, .int i2, .int i3, .int (i4 + (nI 1)), .int r1, .int r2], [], g, I3, J) Q))) ∧ (¬ i2 = (nI 4) → qC d 178 [.ref 105, .long ((Int32.toInt64 r1) * (Int32.toInt64 r2))] g I J (fun v _ _ _ => ∃ r3, v = some (.int r3) ∧ qC d 183 [.ref 105, .int i1, .int i4, .int r3] g I J (fun v _ I2 _ => v = none ∧ qev (d + 1) 206 (19, [.ref 105, .int i1, .int i2, .int i3, .int (i4 + (nI 1)), .int r1, .int r2], [], g, I2, J) Q))))))))))) : qev (d + 1) 206 (19, [.ref 105, .int i1, .int i2, .int i3, .int i4, w5, w6], [], g, I, J) Q := by
  refine e_next (pc' := 21) rfl rfl ?_
  refine e_next (pc' := 22) rfl rfl ?_
  refine e_icmp (i3 ≤ i4) (pc' := 25) rfl rfl e_d (fun hc => ?_) (fun hc => ?_)
  · replace h := h.1 hc
    refine e_next (pc' := 106) rfl rfl ?_
    refine e_next (pc' := 107) rfl rfl ?_
    refine e_next (pc' := 108) rfl rfl ?_
    refine e_ciV (pc' := 111) rfl (e_sV (as := [_, _]) (fun _ => rfl) (Or.inl rfl) rfl (hs.o rfl) rfl rfl (Nat.le_of_ble_eq_true rfl) (Nat.le_of_ble_eq_true rfl) rfl) rfl rfl ?_
    refine qev.mono h (fun v _ I1 _ h => ?_)
    obtain ⟨rfl, h⟩ := h
    refine ⟨rfl, ?_⟩
    refine e_iconst (pc' := 112) rfl rfl kc_m1 ?_
    exact e_iret rfl h
  · replace h := h.2 hc
    refine e_next (pc' := 26) rfl rfl ?_
    refine e_next (pc' := 27) rfl rfl ?_
    refine e_next (pc' := 29) rfl rfl ?_
    refine e_cpI (pc' := 32) rfl (e_sV (as := [_, _]) (fun _ => rfl) (Or.inl rfl) rfl (hs.o rfl) rfl rfl (Nat.le_of_ble_eq_true rfl) (Nat.le_of_ble_eq_true rfl) rfl) rfl rfl rfl ?_
    refine qev.mono h (fun v _ _ _ h => ?_)
    obtain ⟨r1, rfl, h⟩ := h
    refine ⟨r1, rfl, ?_⟩
    refine e_next (pc' := 34) (ls' := [_, _, _, _, _, _, _]) rfl rfl ?_
    refine e_next (pc' := 35) rfl rfl ?_
    refine e_next (pc' := 36) rfl rfl ?_
    refine e_iconst (pc' := 37) rfl rfl kc_1 ?_
    refine e_next (pc' := 38) rfl rfl ?_
    refine e_next (pc' := 40) rfl rfl ?_
    refine e_cpI (pc' := 43) rfl (e_sV (as := [_, _]) (fun _ => rfl) (Or.inl rfl) rfl (hs.o rfl) rfl rfl (Nat.le_of_ble_eq_true rfl) (Nat.le_of_ble_eq_true rfl) rfl) rfl rfl rfl ?_
    refine qev.mono h (fun v _ _ _ h => ?_)
    obtain ⟨r2, rfl, h⟩ := h
    refine ⟨r2, rfl, ?_⟩
    refine e_next (pc' := 45) (ls' := [_, _, _, _, _, _, _]) rfl rfl ?_
    refine e_next (pc' := 46) rfl rfl ?_
    refine e_next (pc' := 47) rfl rfl ?_
    refine e_next (pc' := 49) rfl rfl ?_
    refine e_next (pc' := 50) rfl rfl ?_
    refine e_iconst (pc' := 51) rfl rfl kc_3 ?_
    refine e_icmp (¬ i2 = (nI 3)) (pc' := 54) rfl rfl e_d (fun hc => ?_) (fun hc => ?_)
    · replace h := h.2 hc
      refine e_next (pc' := 68) rfl rfl ?_
      refine e_iconst (pc' := 69) rfl rfl kc_4 ?_
      refine e_icmp (¬ i2 = (nI 4)) (pc' := 72) rfl rfl e_d (fun hc => ?_) (fun hc => ?_)
      · replace h := h.2 hc
        refine e_next (pc' := 86) rfl rfl ?_
        refine e_next (pc' := 88) rfl rfl ?_
        refine e_next (pc' := 89) rfl rfl ?_
        refine e_next (pc' := 91) rfl rfl ?_
        refine e_next (pc' := 92) rfl rfl ?_
        refine e_next (pc' := 93) rfl rfl ?_
        refine e_cpI (pc' := 96) rfl (e_sV (as := [_]) (fun _ => rfl) (Or.inl rfl) rfl (hs.o rfl) rfl rfl (Nat.le_of_ble_eq_true rfl) (Nat.le_of_ble_eq_true rfl) rfl) rfl rfl rfl ?_
        refine qev.mono h (fun v _ _ _ h => ?_)
        obtain ⟨r3, rfl, h⟩ := h
        refine ⟨r3, rfl, ?_⟩
        refine e_ciV (pc' := 99) rfl (e_sV (as := [_, _, _]) (fun _ => rfl) (Or.inl rfl) rfl (hs.o rfl) rfl rfl (Nat.le_of_ble_eq_true rfl) (Nat.le_of_ble_eq_true rfl) rfl) rfl rfl ?_
        refine qev.mono h (fun v _ I2 _ h => ?_)
        obtain ⟨rfl, h⟩ := h
        refine ⟨rfl, ?_⟩
        refine e_iinc (pc' := 102) (ls' := [_, _, _, _, _, _, _]) (v := (nI 1)) rfl rfl kc_1 rfl rfl ?_
        refine e_next (pc' := 19) rfl rfl ?_
        exact h
      · replace h := h.1 (Decidable.not_not.mp hc)
        refine e_next (pc' := 73) rfl rfl ?_
        refine e_next (pc' := 75) rfl rfl ?_
        refine e_next (pc' := 77) rfl rfl ?_
        refine e_next (pc' := 78) rfl rfl ?_
        refine e_next (pc' := 79) rfl rfl ?_
        refine e_cpI (pc' := 82) rfl (e_sV (as := [_]) (fun _ => rfl) (Or.inl rfl) rfl (hs.o rfl) rfl rfl (Nat.le_of_ble_eq_true rfl) (Nat.le_of_ble_eq_true rfl) rfl) rfl rfl rfl ?_
        refine qev.mono h (fun v _ _ _ h => ?_)
        obtain ⟨r4, rfl, h⟩ := h
        refine ⟨r4, rfl, ?_⟩
        refine e_next (pc' := 96) rfl rfl ?_
        refine e_ciV (pc' := 99) rfl (e_sV (as := [_, _, _]) (fun _ => rfl) (Or.inl rfl) rfl (hs.o rfl) rfl rfl (Nat.le_of_ble_eq_true rfl) (Nat.le_of_ble_eq_true rfl) rfl) rfl rfl ?_
        refine qev.mono h (fun v _ I3 _ h => ?_)
        obtain ⟨rfl, h⟩ := h
        refine ⟨rfl, ?_⟩
        refine e_iinc (pc' := 102) (ls' := [_, _, _, _, _, _, _]) (v := (nI 1)) rfl rfl kc_1 rfl rfl ?_
        refine e_next (pc' := 19) rfl rfl ?_
        exact h
    · replace h := h.1 (Decidable.not_not.mp hc)
      refine e_next (pc' := 55) rfl rfl ?_
      refine e_next (pc' := 57) rfl rfl ?_
      refine e_next (pc' := 59) rfl rfl ?_
      refine e_next (pc' := 60) rfl rfl ?_
      refine e_next (pc' := 61) rfl rfl ?_
      refine e_cpI (pc' := 64) rfl (e_sV (as := [_]) (fun _ => rfl) (Or.inl rfl) rfl (hs.o rfl) rfl rfl (Nat.le_of_ble_eq_true rfl) (Nat.le_of_ble_eq_true rfl) rfl) rfl rfl rfl ?_
      refine qev.mono h (fun v _ _ _ h => ?_)
      obtain ⟨r5, rfl, h⟩ := h
      refine ⟨r5, rfl, ?_⟩
      refine e_next (pc' := 96) rfl rfl ?_
      refine e_ciV (pc' := 99) rfl (e_sV (as := [_, _, _]) (fun _ => rfl) (Or.inl rfl) rfl (hs.o rfl) rfl rfl (Nat.le_of_ble_eq_true rfl) (Nat.le_of_ble_eq_true rfl) rfl) rfl rfl ?_
      refine qev.mono h (fun v _ I4 _ h => ?_)
      obtain ⟨rfl, h⟩ := h
      refine ⟨rfl, ?_⟩
      refine e_iinc (pc' := 102) (ls' := [_, _, _, _, _, _, _]) (v := (nI 1)) rfl rfl kc_1 rfl rfl ?_
      refine e_next (pc' := 19) rfl rfl ?_
      exact h
theorem w207 {d : Nat} {x1 : Int32} {x2 : Int32} {g : qG} {I : qI} {J : qJ} {Q : qQ} (hs : qSh g)  (h : ((x2 = nI 5 → qC d 189 [.ref 105, .int x1, .int (x1 + (nI 1)), .int (nI 40)] g I J (fun v _ I1 _ => v = none ∧ qC d 184 [.ref 105, .int (nI 40), .int x1] g I1 J (fun v _ I2 _ => v = none ∧ Q (some (.int (-1))) g I2 J))) ∧ (x2 = nI 6 → qC d 195 [.ref 105, .int x1] g I J (fun v _ I3 _ => ∃ r1, v = some (.int r1) ∧ Q (some (.int r1)) g I3 J)) ∧ (x2 = nI 15 → qC d 205 [.ref 105, .int x1] g I J (fun v _ I4 _ => ∃ r2, v = some (.int r2) ∧ Q (some (.int r2)) g I4 J)) ∧ (¬ x2 = nI 5 ∧ ¬ x2 = nI 6 ∧ ¬ x2 = nI 15 → qC d 206 [.ref 105, .int x1, .int x2] g I J (fun v _ I5 _ => ∃ r3, v = some (.int r3) ∧ Q (some (.int r3)) g I5 J)))) : qC (d + 1) 207 [.ref 105, .int x1, .int x2] g I J Q := by
  show qev (d + 1) 207 (0, [.ref 105, .int x1, .int x2], [], g, I, J) Q
  refine e_next (pc' := 1) rfl rfl ?_
  by_cases hc5 : x2 = nI 5
  · refine e_lsw (t := 36) rfl (by rw [hc5]; decide) ?_
    replace h := h.1 hc5
    refine e_next (pc' := 37) rfl rfl ?_
    refine e_next (pc' := 38) rfl rfl ?_
    refine e_next (pc' := 39) rfl rfl ?_
    refine e_iconst (pc' := 40) rfl rfl kc_1 ?_
    refine e_next (pc' := 41) rfl rfl ?_
    refine e_bipush (pc' := 43) rfl rfl kb_40 ?_
    refine e_ciV (pc' := 46) rfl (e_sV (as := [_, _, _]) (fun _ => rfl) (Or.inl rfl) rfl (hs.o rfl) rfl rfl (Nat.le_of_ble_eq_true rfl) (Nat.le_of_ble_eq_true rfl) rfl) rfl rfl ?_
    refine qev.mono h (fun v _ I1 _ h => ?_)
    obtain ⟨rfl, h⟩ := h
    refine ⟨rfl, ?_⟩
    refine e_next (pc' := 47) rfl rfl ?_
    refine e_bipush (pc' := 49) rfl rfl kb_40 ?_
    refine e_next (pc' := 50) rfl rfl ?_
    refine e_ciV (pc' := 53) rfl (e_sV (as := [_, _]) (fun _ => rfl) (Or.inl rfl) rfl (hs.o rfl) rfl rfl (Nat.le_of_ble_eq_true rfl) (Nat.le_of_ble_eq_true rfl) rfl) rfl rfl ?_
    refine qev.mono h (fun v _ I2 _ h => ?_)
    obtain ⟨rfl, h⟩ := h
    refine ⟨rfl, ?_⟩
    refine e_iconst (pc' := 54) rfl rfl kc_m1 ?_
    exact e_iret rfl h
  replace h := h.2
  by_cases hc6 : x2 = nI 6
  · refine e_lsw (t := 55) rfl (by rw [hc6]; decide) ?_
    replace h := h.1 hc6
    refine e_next (pc' := 56) rfl rfl ?_
    refine e_next (pc' := 57) rfl rfl ?_
    refine e_ciI (pc' := 60) rfl (e_sV (as := [_]) (fun _ => rfl) (Or.inl rfl) rfl (hs.o rfl) rfl rfl (Nat.le_of_ble_eq_true rfl) (Nat.le_of_ble_eq_true rfl) rfl) rfl rfl ?_
    refine qev.mono h (fun v _ I3 _ h => ?_)
    obtain ⟨r1, rfl, h⟩ := h
    refine ⟨r1, rfl, ?_⟩
    exact e_iret rfl h
  replace h := h.2
  by_cases hc15 : x2 = nI 15
  · refine e_lsw (t := 61) rfl (by rw [hc15]; decide) ?_
    replace h := h.1 hc15
    refine e_next (pc' := 62) rfl rfl ?_
    refine e_next (pc' := 63) rfl rfl ?_
    refine e_ciI (pc' := 66) rfl (e_sV (as := [_]) (fun _ => rfl) (Or.inl rfl) rfl (hs.o rfl) rfl rfl (Nat.le_of_ble_eq_true rfl) (Nat.le_of_ble_eq_true rfl) rfl) rfl rfl ?_
    refine qev.mono h (fun v _ I4 _ h => ?_)
    obtain ⟨r2, rfl, h⟩ := h
    refine ⟨r2, rfl, ?_⟩
    exact e_iret rfl h
  replace h := h.2
  replace h := h ⟨hc5, hc6, hc15⟩
  refine e_lsw (t := 67) rfl (by show qtb _ (some (Op.lookupswitch.offset [(5, 35), (6, 54), (15, 60)] _ _)) = _; rw [lv_osw hc5 (a := 5) (by decide), lv_osw hc6 (a := 6) (by decide), lv_osw hc15 (a := 15) (by decide)]; rfl) ?_
  refine e_next (pc' := 68) rfl rfl ?_
  refine e_next (pc' := 69) rfl rfl ?_
  refine e_next (pc' := 70) rfl rfl ?_
  refine e_ciI (pc' := 73) rfl (e_sV (as := [_, _]) (fun _ => rfl) (Or.inl rfl) rfl (hs.o rfl) rfl rfl (Nat.le_of_ble_eq_true rfl) (Nat.le_of_ble_eq_true rfl) rfl) rfl rfl ?_
  refine qev.mono h (fun v _ I5 _ h => ?_)
  obtain ⟨r3, rfl, h⟩ := h
  refine ⟨r3, rfl, ?_⟩
  exact e_iret rfl h
theorem w208 {d : Nat} {x1 : Int32} {x2 : Int32} {x3 : Int32} {g : qG} {I : qI} {J : qJ} {Q : qQ} (hs : qSh g)  (h : ((x2 = nI 7 → qC d 196 [.ref 105, .int x1, .int x3] g I J (fun v _ I1 _ => ∃ r1, v = some (.int r1) ∧ Q (some (.int r1)) g I1 J)) ∧ (x2 = nI 8 → qC d 197 [.ref 105, .int x1] g I J (fun v _ I2 _ => ∃ r2, v = some (.int r2) ∧ Q (some (.int r2)) g I2 J)) ∧ (x2 = nI 9 → qC d 198 [.ref 105, .int x1] g I J (fun v _ I3 _ => ∃ r3, v = some (.int r3) ∧ Q (some (.int r3)) g I3 J)) ∧ (x2 = nI 10 → qC d 199 [.ref 105, .int x1] g I J (fun v _ I4 _ => ∃ r4, v = some (.int r4) ∧ Q (some (.int r4)) g I4 J)) ∧ (x2 = nI 11 → qC d 200 [.ref 105, .int x1] g I J (fun v _ I5 _ => ∃ r5, v = some (.int r5) ∧ Q (some (.int r5)) g I5 J)) ∧ (x2 = nI 12 → qC d 202 [.ref 105, .int x1] g I J (fun v _ I6 _ => ∃ r6, v = some (.int r6) ∧ Q (some (.int r6)) g I6 J)) ∧ (x2 = nI 13 → qC d 204 [.ref 105, .int x1, .int x3] g I J (fun v _ I7 _ => ∃ r7, v = some (.int r7) ∧ Q (some (.int r7)) g I7 J)) ∧ (¬ x2 = nI 7 ∧ ¬ x2 = nI 8 ∧ ¬ x2 = nI 9 ∧ ¬ x2 = nI 10 ∧ ¬ x2 = nI 11 ∧ ¬ x2 = nI 12 ∧ ¬ x2 = nI 13 → qC d 180 [.ref 105, .int x1] g I J (fun v _ _ _ => ∃ r8, v = some (.int r8) ∧ qC d 186 [.int r8, .int x3] g I J (fun v _ _ _ => ∃ r9, v = some (.int r9) ∧ qC d 181 [.ref 105, .int x1, .int r9] g I J (fun v _ I8 _ => v = none ∧ Q (some (.int (-1))) g I8 J)))))) : qC (d + 1) 208 [.ref 105, .int x1, .int x2, .int x3] g I J Q := by
  show qev (d + 1) 208 (0, [.ref 105, .int x1, .int x2, .int x3], [], g, I, J) Q
  refine e_next (pc' := 1) rfl rfl ?_
  by_cases hc7 : x2 = nI 7
  · refine e_tswI (t := 44) 7 rfl hc7 (by decide) (by decide) ?_
    replace h := h.1 hc7
    refine e_next (pc' := 45) rfl rfl ?_
    refine e_next (pc' := 46) rfl rfl ?_
    refine e_next (pc' := 47) rfl rfl ?_
    refine e_ciI (pc' := 50) rfl (e_sV (as := [_, _]) (fun _ => rfl) (Or.inl rfl) rfl (hs.o rfl) rfl rfl (Nat.le_of_ble_eq_true rfl) (Nat.le_of_ble_eq_true rfl) rfl) rfl rfl ?_
    refine qev.mono h (fun v _ I1 _ h => ?_)
    obtain ⟨r1, rfl, h⟩ := h
    refine ⟨r1, rfl, ?_⟩
    exact e_iret rfl h
  replace h := h.2
  by_cases hc8 : x2 = nI 8
  · refine e_tswI (t := 51) 8 rfl hc8 (by decide) (by decide) ?_
    replace h := h.1 hc8
    refine e_next (pc' := 52) rfl rfl ?_
    refine e_next (pc' := 53) rfl rfl ?_
    refine e_ciI (pc' := 56) rfl (e_sV (as := [_]) (fun _ => rfl) (Or.inl rfl) rfl (hs.o rfl) rfl rfl (Nat.le_of_ble_eq_true rfl) (Nat.le_of_ble_eq_true rfl) rfl) rfl rfl ?_
    refine qev.mono h (fun v _ I2 _ h => ?_)
    obtain ⟨r2, rfl, h⟩ := h
    refine ⟨r2, rfl, ?_⟩
    exact e_iret rfl h
  replace h := h.2
  by_cases hc9 : x2 = nI 9
  · refine e_tswI (t := 57) 9 rfl hc9 (by decide) (by decide) ?_
    replace h := h.1 hc9
    refine e_next (pc' := 58) rfl rfl ?_
    refine e_next (pc' := 59) rfl rfl ?_
    refine e_ciI (pc' := 62) rfl (e_sV (as := [_]) (fun _ => rfl) (Or.inl rfl) rfl (hs.o rfl) rfl rfl (Nat.le_of_ble_eq_true rfl) (Nat.le_of_ble_eq_true rfl) rfl) rfl rfl ?_
    refine qev.mono h (fun v _ I3 _ h => ?_)
    obtain ⟨r3, rfl, h⟩ := h
    refine ⟨r3, rfl, ?_⟩
    exact e_iret rfl h
  replace h := h.2
  by_cases hc10 : x2 = nI 10
  · refine e_tswI (t := 63) 10 rfl hc10 (by decide) (by decide) ?_
    replace h := h.1 hc10
    refine e_next (pc' := 64) rfl rfl ?_
    refine e_next (pc' := 65) rfl rfl ?_
    refine e_ciI (pc' := 68) rfl (e_sV (as := [_]) (fun _ => rfl) (Or.inl rfl) rfl (hs.o rfl) rfl rfl (Nat.le_of_ble_eq_true rfl) (Nat.le_of_ble_eq_true rfl) rfl) rfl rfl ?_
    refine qev.mono h (fun v _ I4 _ h => ?_)
    obtain ⟨r4, rfl, h⟩ := h
    refine ⟨r4, rfl, ?_⟩
    exact e_iret rfl h
  replace h := h.2
  by_cases hc11 : x2 = nI 11
  · refine e_tswI (t := 69) 11 rfl hc11 (by decide) (by decide) ?_
    replace h := h.1 hc11
    refine e_next (pc' := 70) rfl rfl ?_
    refine e_next (pc' := 71) rfl rfl ?_
    refine e_ciI (pc' := 74) rfl (e_sV (as := [_]) (fun _ => rfl) (Or.inl rfl) rfl (hs.o rfl) rfl rfl (Nat.le_of_ble_eq_true rfl) (Nat.le_of_ble_eq_true rfl) rfl) rfl rfl ?_
    refine qev.mono h (fun v _ I5 _ h => ?_)
    obtain ⟨r5, rfl, h⟩ := h
    refine ⟨r5, rfl, ?_⟩
    exact e_iret rfl h
  replace h := h.2
  by_cases hc12 : x2 = nI 12
  · refine e_tswI (t := 75) 12 rfl hc12 (by decide) (by decide) ?_
    replace h := h.1 hc12
    refine e_next (pc' := 76) rfl rfl ?_
    refine e_next (pc' := 77) rfl rfl ?_
    refine e_ciI (pc' := 80) rfl (e_sV (as := [_]) (fun _ => rfl) (Or.inl rfl) rfl (hs.o rfl) rfl rfl (Nat.le_of_ble_eq_true rfl) (Nat.le_of_ble_eq_true rfl) rfl) rfl rfl ?_
    refine qev.mono h (fun v _ I6 _ h => ?_)
    obtain ⟨r6, rfl, h⟩ := h
    refine ⟨r6, rfl, ?_⟩
    exact e_iret rfl h
  replace h := h.2
  by_cases hc13 : x2 = nI 13
  · refine e_tswI (t := 81) 13 rfl hc13 (by decide) (by decide) ?_
    replace h := h.1 hc13
    refine e_next (pc' := 82) rfl rfl ?_
    refine e_next (pc' := 83) rfl rfl ?_
    refine e_next (pc' := 84) rfl rfl ?_
    refine e_ciI (pc' := 87) rfl (e_sV (as := [_, _]) (fun _ => rfl) (Or.inl rfl) rfl (hs.o rfl) rfl rfl (Nat.le_of_ble_eq_true rfl) (Nat.le_of_ble_eq_true rfl) rfl) rfl rfl ?_
    refine qev.mono h (fun v _ I7 _ h => ?_)
    obtain ⟨r7, rfl, h⟩ := h
    refine ⟨r7, rfl, ?_⟩
    exact e_iret rfl h
  replace h := h.2
  replace h := h ⟨hc7, hc8, hc9, hc10, hc11, hc12, hc13⟩
  refine e_tswO (t := 88) (lo := 7) (hi := 13) rfl (fun k h1 h2 => ?_) (by decide) (by decide) ?_
  · rcases (show k = 7 ∨ k = 8 ∨ k = 9 ∨ k = 10 ∨ k = 11 ∨ k = 12 ∨ k = 13 by omega) with rfl | rfl | rfl | rfl | rfl | rfl | rfl
    · exact hc7
    · exact hc8
    · exact hc9
    · exact hc10
    · exact hc11
    · exact hc12
    · exact hc13
  refine e_next (pc' := 89) rfl rfl ?_
  refine e_next (pc' := 90) rfl rfl ?_
  refine e_next (pc' := 91) rfl rfl ?_
  refine e_next (pc' := 92) rfl rfl ?_
  refine e_cpI (pc' := 95) rfl (e_sV (as := [_]) (fun _ => rfl) (Or.inl rfl) rfl (hs.o rfl) rfl rfl (Nat.le_of_ble_eq_true rfl) (Nat.le_of_ble_eq_true rfl) rfl) rfl rfl rfl ?_
  refine qev.mono h (fun v _ _ _ h => ?_)
  obtain ⟨r8, rfl, h⟩ := h
  refine ⟨r8, rfl, ?_⟩
  refine e_next (pc' := 96) rfl rfl ?_
  refine e_cpI (pc' := 99) rfl (e_sS (as := [_, _]) (fun _ => rfl) rfl (Nat.le_of_ble_eq_true rfl) rfl rfl (Nat.le_of_ble_eq_true rfl) (Nat.le_of_ble_eq_true rfl) rfl) rfl rfl rfl ?_
  refine qev.mono h (fun v _ _ _ h => ?_)
  obtain ⟨r9, rfl, h⟩ := h
  refine ⟨r9, rfl, ?_⟩
  refine e_ciV (pc' := 102) rfl (e_sV (as := [_, _]) (fun _ => rfl) (Or.inl rfl) rfl (hs.o rfl) rfl rfl (Nat.le_of_ble_eq_true rfl) (Nat.le_of_ble_eq_true rfl) rfl) rfl rfl ?_
  refine qev.mono h (fun v _ I8 _ h => ?_)
  obtain ⟨rfl, h⟩ := h
  refine ⟨rfl, ?_⟩
  refine e_iconst (pc' := 103) rfl rfl kc_m1 ?_
  exact e_iret rfl h
theorem w209 {d : Nat} {x1 : Nat} {n_x1 : Nat} {x2 : Int32} {x3 : Int32} {g : qG} {I : qI} {J : qJ} {Q : qQ} (hs : qSh g) (hk_x1 : g.1 x1 = some (100, n_x1)) (hn_x1 : n_x1 < 2 ^ 31) (h : ((x2 = 0 → qC d 178 [.ref 105, .long (Int32.toInt64 x3)] g (qw I 105 25 ((I 105 25) + (nI 1))) J (fun v _ _ _ => ∃ r2, v = some (.int r2) ∧ qC d 187 [.ref 105, .int (I 105 25), .int r2] g (qw I 105 25 ((I 105 25) + (nI 1))) J (fun v _ I3 _ => v = none ∧ Q (some (.int (-1))) g I3 J))) ∧ (¬ x2 = 0 → ((x2 = (nI 1) → qC d 187 [.ref 105, .int (I 105 25), .int (nI 0)] g (qw I 105 25 ((I 105 25) + (nI 1))) J (fun v _ I1 _ => v = none ∧ qC d 178 [.ref 105, .long (lN 1)] g I1 J (fun v _ _ _ => ∃ r1, v = some (.int r1) ∧ qC d 183 [.ref 105, .int (I 105 25), .int (nI 1), .int r1] g I1 J (fun v _ I2 _ => v = none ∧ Q (some (.int (-1))) g I2 J)))) ∧ (¬ x2 = (nI 1) → ∃ k1, ((nI 25) * x3) = nI k1 ∧ k1 < n_x1 ∧ ((((qw I 105 25 ((I 105 25) + (nI 1))) x1 k1) = 0 → Q (some (.int (nI 0))) g (qw I 105 25 ((I 105 25) + (nI 1))) J) ∧ (¬ ((qw I 105 25 ((I 105 25) + (nI 1))) x1 k1) = 0 → qev (d + 1) 209 (76, [.ref 105, .ref x1, .int x2, .int x3, .int (I 105 25), .int (nI 0)], [], g, (qw I 105 25 ((I 105 25) + (nI 1))), J) Q))))))) : qC (d + 1) 209 [.ref 105, .ref x1, .int x2, .int x3] g I J Q := by
  show qev (d + 1) 209 (0, [.ref 105, .ref x1, .int x2, .int x3, qpad, qpad], [], g, I, J) Q
  refine e_next (pc' := 1) rfl rfl ?_
  refine e_getI (pc' := 4) rfl (Or.inl rfl) rfl (hs.o rfl) ?_
  refine e_next (pc' := 6) (ls' := [_, _, _, _, _, _]) rfl rfl ?_
  refine e_next (pc' := 7) rfl rfl ?_
  refine e_next (pc' := 8) rfl rfl ?_
  refine e_getI (pc' := 11) rfl (Or.inl rfl) rfl (hs.o rfl) ?_
  refine e_iconst (pc' := 12) rfl rfl kc_1 ?_
  refine e_next (pc' := 13) rfl rfl ?_
  refine e_putI (pc' := 16) rfl rfl (hs.o rfl) ?_
  refine e_next (pc' := 17) rfl rfl ?_
  refine e_if (¬ x2 = 0) (pc' := 20) rfl rfl e_d (fun hc => ?_) (fun hc => ?_)
  · replace h := h.2 hc
    refine e_next (pc' := 36) rfl rfl ?_
    refine e_iconst (pc' := 37) rfl rfl kc_1 ?_
    refine e_icmp (¬ x2 = (nI 1)) (pc' := 40) rfl rfl e_d (fun hc => ?_) (fun hc => ?_)
    · replace h := h.2 hc
      refine e_next (pc' := 63) rfl rfl ?_
      refine e_bipush (pc' := 65) rfl rfl kb_25 ?_
      refine e_next (pc' := 66) rfl rfl ?_
      refine e_next (pc' := 67) rfl rfl ?_
      obtain ⟨k1, hi_k1, hj_k1, h⟩ := h
      refine e_iald k1 (pc' := 68) rfl rfl hk_x1 hi_k1 hj_k1 hn_x1 ?_
      refine e_if (¬ ((qw I 105 25 ((I 105 25) + (nI 1))) x1 k1) = 0) (pc' := 71) rfl rfl e_d (fun hc => ?_) (fun hc => ?_)
      · replace h := h.2 hc
        refine e_iconst (pc' := 74) rfl rfl kc_0 ?_
        refine e_next (pc' := 76) (ls' := [_, _, _, _, _, _]) rfl rfl ?_
        exact h
      · replace h := h.1 (Decidable.not_not.mp hc)
        refine e_iconst (pc' := 72) rfl rfl kc_0 ?_
        exact e_iret rfl h
    · replace h := h.1 (Decidable.not_not.mp hc)
      refine e_next (pc' := 41) rfl rfl ?_
      refine e_next (pc' := 43) rfl rfl ?_
      refine e_iconst (pc' := 44) rfl rfl kc_0 ?_
      refine e_ciV (pc' := 47) rfl (e_sV (as := [_, _]) (fun _ => rfl) (Or.inl rfl) rfl (hs.o rfl) rfl rfl (Nat.le_of_ble_eq_true rfl) (Nat.le_of_ble_eq_true rfl) rfl) rfl rfl ?_
      refine qev.mono h (fun v _ I1 _ h => ?_)
      obtain ⟨rfl, h⟩ := h
      refine ⟨rfl, ?_⟩
      refine e_next (pc' := 48) rfl rfl ?_
      refine e_next (pc' := 50) rfl rfl ?_
      refine e_iconst (pc' := 51) rfl rfl kc_1 ?_
      refine e_next (pc' := 52) rfl rfl ?_
      refine e_lconst (pc' := 53) rfl rfl kl_1 ?_
      refine e_cpI (pc' := 56) rfl (e_sV (as := [_]) (fun _ => rfl) (Or.inl rfl) rfl (hs.o rfl) rfl rfl (Nat.le_of_ble_eq_true rfl) (Nat.le_of_ble_eq_true rfl) rfl) rfl rfl rfl ?_
      refine qev.mono h (fun v _ _ _ h => ?_)
      obtain ⟨r1, rfl, h⟩ := h
      refine ⟨r1, rfl, ?_⟩
      refine e_ciV (pc' := 59) rfl (e_sV (as := [_, _, _]) (fun _ => rfl) (Or.inl rfl) rfl (hs.o rfl) rfl rfl (Nat.le_of_ble_eq_true rfl) (Nat.le_of_ble_eq_true rfl) rfl) rfl rfl ?_
      refine qev.mono h (fun v _ I2 _ h => ?_)
      obtain ⟨rfl, h⟩ := h
      refine ⟨rfl, ?_⟩
      refine e_next (pc' := 111) rfl rfl ?_
      refine e_iconst (pc' := 112) rfl rfl kc_m1 ?_
      exact e_iret rfl h
  · replace h := h.1 (Decidable.not_not.mp hc)
    refine e_next (pc' := 21) rfl rfl ?_
    refine e_next (pc' := 23) rfl rfl ?_
    refine e_next (pc' := 24) rfl rfl ?_
    refine e_next (pc' := 25) rfl rfl ?_
    refine e_next (pc' := 26) rfl rfl ?_
    refine e_cpI (pc' := 29) rfl (e_sV (as := [_]) (fun _ => rfl) (Or.inl rfl) rfl (hs.o rfl) rfl rfl (Nat.le_of_ble_eq_true rfl) (Nat.le_of_ble_eq_true rfl) rfl) rfl rfl rfl ?_
    refine qev.mono h (fun v _ _ _ h => ?_)
    obtain ⟨r2, rfl, h⟩ := h
    refine ⟨r2, rfl, ?_⟩
    refine e_ciV (pc' := 32) rfl (e_sV (as := [_, _]) (fun _ => rfl) (Or.inl rfl) rfl (hs.o rfl) rfl rfl (Nat.le_of_ble_eq_true rfl) (Nat.le_of_ble_eq_true rfl) rfl) rfl rfl ?_
    refine qev.mono h (fun v _ I3 _ h => ?_)
    obtain ⟨rfl, h⟩ := h
    refine ⟨rfl, ?_⟩
    refine e_next (pc' := 111) rfl rfl ?_
    refine e_iconst (pc' := 112) rfl rfl kc_m1 ?_
    exact e_iret rfl h
theorem w209_76 {d : Nat} {x1 : Nat} {n_x1 : Nat} {i2 : Int32} {i3 : Int32} {i4 : Int32} {i5 : Int32} {g : qG} {I : qI} {J : qJ} {Q : qQ} (hs : qSh g) (hk_x1 : g.1 x1 = some (100, n_x1)) (hn_x1 : n_x1 < 2 ^ 31) (h : (((nI 25) ≤ i5 → Q (some (.int (-1))) g I J) ∧ (¬ (nI 25) ≤ i5 → ∃ k1, (((nI 25) * i3) + i5) = nI k1 ∧ k1 < n_x1 ∧ ∃ k2, (((nI 25) * i4) + i5) = nI k2 ∧ k2 < 1200 ∧ qev (d + 1) 209 (76, [.ref 105, .ref x1, .int i2, .int i3, .int i4, .int (i5 + (nI 1))], [], g, (qw I 115 k2 (I x1 k1)), J) Q))) : qev (d + 1) 209 (76, [.ref 105, .ref x1, .int i2, .int i3, .int i4, .int i5], [], g, I, J) Q := by
  refine e_next (pc' := 78) rfl rfl ?_
  refine e_bipush (pc' := 80) rfl rfl kb_25 ?_
  refine e_icmp ((nI 25) ≤ i5) (pc' := 83) rfl rfl e_d (fun hc => ?_) (fun hc => ?_)
  · replace h := h.1 hc
    refine e_iconst (pc' := 112) rfl rfl kc_m1 ?_
    exact e_iret rfl h
  · replace h := h.2 hc
    refine e_next (pc' := 84) rfl rfl ?_
    refine e_getR (pc' := 87) rfl rfl (hs.o rfl) (hs.a rfl) ?_
    refine e_bipush (pc' := 89) rfl rfl kb_25 ?_
    refine e_next (pc' := 91) rfl rfl ?_
    refine e_next (pc' := 92) rfl rfl ?_
    refine e_next (pc' := 94) rfl rfl ?_
    refine e_next (pc' := 95) rfl rfl ?_
    refine e_next (pc' := 96) rfl rfl ?_
    refine e_bipush (pc' := 98) rfl rfl kb_25 ?_
    refine e_next (pc' := 99) rfl rfl ?_
    refine e_next (pc' := 100) rfl rfl ?_
    refine e_next (pc' := 102) rfl rfl ?_
    refine e_next (pc' := 103) rfl rfl ?_
    obtain ⟨k1, hi_k1, hj_k1, h⟩ := h
    refine e_iald k1 (pc' := 104) rfl rfl hk_x1 hi_k1 hj_k1 hn_x1 ?_
    obtain ⟨k2, hi_k2, hj_k2, h⟩ := h
    refine e_iast k2 (pc' := 105) rfl rfl (hs.k rfl) hi_k2 hj_k2 (by decide) ?_
    refine e_iinc (pc' := 108) (ls' := [_, _, _, _, _, _]) (v := (nI 1)) rfl rfl kc_1 rfl rfl ?_
    refine e_next (pc' := 76) rfl rfl ?_
    exact h
theorem w210 {d : Nat} {x1 : Nat} {n_x1 : Nat} {x2 : Int32} {g : qG} {I : qI} {J : qJ} {Q : qQ} (hs : qSh g) (hk_x1 : g.1 x1 = some (100, n_x1)) (hn_x1 : n_x1 < 2 ^ 31) (h : qev (d + 1) 210 (10, [.ref 105, .ref x1, .int x2, .int (-1), .int (nI 0), qpad, qpad, qpad], [], g, (qw I 105 25 (nI 0)), J) Q) : qC (d + 1) 210 [.ref 105, .ref x1, .int x2] g I J Q := by
  show qev (d + 1) 210 (0, [.ref 105, .ref x1, .int x2, qpad, qpad, qpad, qpad, qpad], [], g, I, J) Q
  refine e_next (pc' := 1) rfl rfl ?_
  refine e_iconst (pc' := 2) rfl rfl kc_0 ?_
  refine e_putI (pc' := 5) rfl rfl (hs.o rfl) ?_
  refine e_iconst (pc' := 6) rfl rfl kc_m1 ?_
  refine e_next (pc' := 7) (ls' := [_, _, _, _, _, _, _, _]) rfl rfl ?_
  refine e_iconst (pc' := 8) rfl rfl kc_0 ?_
  refine e_next (pc' := 10) (ls' := [_, _, _, _, _, _, _, _]) rfl rfl ?_
  exact h
theorem w210_10 {d : Nat} {x1 : Nat} {n_x1 : Nat} {i2 : Int32} {i3 : Int32} {i4 : Int32} {w5 : Value} {w6 : Value} {w7 : Value} {g : qG} {I : qI} {J : qJ} {Q : qQ} (hs : qSh g) (hk_x1 : g.1 x1 = some (100, n_x1)) (hn_x1 : n_x1 < 2 ^ 31) (h : ∃ k1, i2 = nI k1 ∧ k1 < 41 ∧ (((I 108 k1) ≤ i4 → Q (some (.int i3)) g I J) ∧ (¬ (I 108 k1) ≤ i4 → ((i3 = (-1) → ∃ k2, (((nI 280) * i2) + ((nI 2) * i4)) = nI k2 ∧ k2 < 11480 ∧ ∃ k3, ((((nI 280) * i2) + ((nI 2) * i4)) + (nI 1)) = nI k3 ∧ k3 < 11480 ∧ qC d 147 [.long (Int32.toInt64 (I 109 k2)), .long (lN 3), .long (lN 6)] g I J (fun v _ _ _ => ∃ r1, v = some (.int r1) ∧ ((r1 = 0 → (((I 109 k2) < (nI 15) → qev (d + 1) 210 (106, [.ref 105, .ref x1, .int i2, .int i3, .int i4, .int (I 109 k2), .int (I 109 k3), .int (nI 0)], [], g, I, J) Q) ∧ (¬ (I 109 k2) < (nI 15) → qev (d + 1) 210 (106, [.ref 105, .ref x1, .int i2, .int i3, .int i4, .int (I 109 k2), .int (I 109 k3), .int (nI 1)], [], g, (qw I 105 25 ((I 105 25) - (nI 1))), J) Q))) ∧ (¬ r1 = 0 → qev (d + 1) 210 (106, [.ref 105, .ref x1, .int i2, .int i3, .int i4, .int (I 109 k2), .int (I 109 k3), .int (nI 1)], [], g, (qw I 105 25 ((I 105 25) - (nI 1))), J) Q)))) ∧ (¬ i3 = (-1) → Q (some (.int i3)) g I J))))) : qev (d + 1) 210 (10, [.ref 105, .ref x1, .int i2, .int i3, .int i4, w5, w6, w7], [], g, I, J) Q := by
  refine e_next (pc' := 12) rfl rfl ?_
  refine e_next (pc' := 13) rfl rfl ?_
  refine e_getR (pc' := 16) rfl rfl (hs.o rfl) (hs.a rfl) ?_
  refine e_next (pc' := 17) rfl rfl ?_
  obtain ⟨k1, hi_k1, hj_k1, h⟩ := h
  refine e_iald k1 (pc' := 18) rfl rfl (hs.k rfl) hi_k1 hj_k1 (by decide) ?_
  refine e_icmp ((I 108 k1) ≤ i4) (pc' := 21) rfl rfl e_d (fun hc => ?_) (fun hc => ?_)
  · replace h := h.1 hc
    refine e_next (pc' := 166) rfl rfl ?_
    exact e_iret rfl h
  · replace h := h.2 hc
    refine e_next (pc' := 22) rfl rfl ?_
    refine e_iconst (pc' := 23) rfl rfl kc_m1 ?_
    refine e_icmp (¬ i3 = (-1)) (pc' := 26) rfl rfl e_d (fun hc => ?_) (fun hc => ?_)
    · replace h := h.2 hc
      refine e_next (pc' := 166) rfl rfl ?_
      exact e_iret rfl h
    · replace h := h.1 (Decidable.not_not.mp hc)
      refine e_next (pc' := 27) rfl rfl ?_
      refine e_getR (pc' := 30) rfl rfl (hs.o rfl) (hs.a rfl) ?_
      refine e_sipush (pc' := 33) rfl rfl ks_280 ?_
      refine e_next (pc' := 34) rfl rfl ?_
      refine e_next (pc' := 35) rfl rfl ?_
      refine e_iconst (pc' := 36) rfl rfl kc_2 ?_
      refine e_next (pc' := 38) rfl rfl ?_
      refine e_next (pc' := 39) rfl rfl ?_
      refine e_next (pc' := 40) rfl rfl ?_
      obtain ⟨k2, hi_k2, hj_k2, h⟩ := h
      refine e_iald k2 (pc' := 41) rfl rfl (hs.k rfl) hi_k2 hj_k2 (by decide) ?_
      refine e_next (pc' := 43) (ls' := [_, _, _, _, _, _, _, _]) rfl rfl ?_
      refine e_next (pc' := 44) rfl rfl ?_
      refine e_getR (pc' := 47) rfl rfl (hs.o rfl) (hs.a rfl) ?_
      refine e_sipush (pc' := 50) rfl rfl ks_280 ?_
      refine e_next (pc' := 51) rfl rfl ?_
      refine e_next (pc' := 52) rfl rfl ?_
      refine e_iconst (pc' := 53) rfl rfl kc_2 ?_
      refine e_next (pc' := 55) rfl rfl ?_
      refine e_next (pc' := 56) rfl rfl ?_
      refine e_next (pc' := 57) rfl rfl ?_
      refine e_iconst (pc' := 58) rfl rfl kc_1 ?_
      refine e_next (pc' := 59) rfl rfl ?_
      obtain ⟨k3, hi_k3, hj_k3, h⟩ := h
      refine e_iald k3 (pc' := 60) rfl rfl (hs.k rfl) hi_k3 hj_k3 (by decide) ?_
      refine e_next (pc' := 62) (ls' := [_, _, _, _, _, _, _, _]) rfl rfl ?_
      refine e_next (pc' := 64) rfl rfl ?_
      refine e_next (pc' := 65) rfl rfl ?_
      refine e_ldc2 (pc' := 68) rfl rfl kN_3 ?_
      refine e_ldc2 (pc' := 71) rfl rfl kN_6 ?_
      refine e_cpI (pc' := 74) rfl (e_sS (as := [_, _, _]) (fun _ => rfl) rfl (Nat.le_of_ble_eq_true rfl) rfl rfl (Nat.le_of_ble_eq_true rfl) (Nat.le_of_ble_eq_true rfl) rfl) rfl rfl rfl ?_
      refine qev.mono h (fun v _ _ _ h => ?_)
      obtain ⟨r1, rfl, h⟩ := h
      refine ⟨r1, rfl, ?_⟩
      refine e_if (¬ r1 = 0) (pc' := 77) rfl rfl e_d (fun hc => ?_) (fun hc => ?_)
      · replace h := h.2 hc
        refine e_iconst (pc' := 85) rfl rfl kc_1 ?_
        refine e_next (pc' := 89) rfl rfl ?_
        refine e_next (pc' := 91) (ls' := [_, _, _, _, _, _, _, _]) rfl rfl ?_
        refine e_next (pc' := 93) rfl rfl ?_
        refine e_next (pc' := 96) rfl rfl ?_
        refine e_next (pc' := 97) rfl rfl ?_
        refine e_next (pc' := 98) rfl rfl ?_
        refine e_getI (pc' := 101) rfl (Or.inl rfl) rfl (hs.o rfl) ?_
        refine e_iconst (pc' := 102) rfl rfl kc_1 ?_
        refine e_next (pc' := 103) rfl rfl ?_
        refine e_putI (pc' := 106) rfl rfl (hs.o rfl) ?_
        exact h
      · replace h := h.1 (Decidable.not_not.mp hc)
        refine e_next (pc' := 79) rfl rfl ?_
        refine e_bipush (pc' := 81) rfl rfl kb_15 ?_
        refine e_icmp ((I 109 k2) < (nI 15)) (pc' := 84) rfl rfl e_d (fun hc => ?_) (fun hc => ?_)
        · replace h := h.1 hc
          refine e_iconst (pc' := 89) rfl rfl kc_0 ?_
          refine e_next (pc' := 91) (ls' := [_, _, _, _, _, _, _, _]) rfl rfl ?_
          refine e_next (pc' := 93) rfl rfl ?_
          refine e_next (pc' := 106) rfl rfl ?_
          exact h
        · replace h := h.2 hc
          refine e_iconst (pc' := 85) rfl rfl kc_1 ?_
          refine e_next (pc' := 89) rfl rfl ?_
          refine e_next (pc' := 91) (ls' := [_, _, _, _, _, _, _, _]) rfl rfl ?_
          refine e_next (pc' := 93) rfl rfl ?_
          refine e_next (pc' := 96) rfl rfl ?_
          refine e_next (pc' := 97) rfl rfl ?_
          refine e_next (pc' := 98) rfl rfl ?_
          refine e_getI (pc' := 101) rfl (Or.inl rfl) rfl (hs.o rfl) ?_
          refine e_iconst (pc' := 102) rfl rfl kc_1 ?_
          refine e_next (pc' := 103) rfl rfl ?_
          refine e_putI (pc' := 106) rfl rfl (hs.o rfl) ?_
          exact h
